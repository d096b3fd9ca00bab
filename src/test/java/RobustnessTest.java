import java.util.Random;

/** No call may throw, whatever its arguments and however many calls came before. */
public final class RobustnessTest {
    private static final int[] EXTREMES = {
        Integer.MIN_VALUE, Integer.MIN_VALUE + 1, -1000, -7, -2, -1, 0, 1, 2, 3, 4, 5, 6, 7, 8, 9, 10,
        's', 'p', '.', ';', ' ', 255, 256, 1000, 1 << 30, Integer.MAX_VALUE - 1, Integer.MAX_VALUE
    };

    private static Random random;

    public static void main(String[] args) {
        for (int seed = 0; seed < 60; seed++) {
            random = new Random(seed);
            EscapeRouter router = new EscapeRouter();
            int sum = 0;
            for (int i = 0; i < 3000; i++) {
                sum += random.nextBoolean() ? callOfGrid(router) : callOfLayers(router);
            }
            Checks.holds("calls of seed " + seed + " were made, sum " + sum, router.rows() >= 1);
        }
        distantPlacesAreRefused();
        Checks.finish("RobustnessTest");
    }

    private static int any() {
        return random.nextInt(4) == 0 ? EXTREMES[random.nextInt(EXTREMES.length)] : random.nextInt(7);
    }

    private static int callOfGrid(EscapeRouter x) {
        switch (random.nextInt(14)) {
            case 0:
            case 1:
            case 2:
                return x.appendCharacter(random.nextInt(3) == 0 ? any() : "sp.; ;".charAt(random.nextInt(6)));
            case 3:
                return x.clearText();
            case 4:
                return x.loadGrid();
            case 5:
                return x.setKind(any(), any(), any());
            case 6:
                return x.setChannelCapacity(any());
            case 7:
                return x.setTileCapacity(any());
            case 8:
                return x.rows() + x.columns() + x.signalCount();
            case 9:
                return x.kindAt(any(), any());
            case 10:
                return x.makePair(any(), any(), any(), any());
            case 11:
                return x.breakPair(any(), any());
            case 12:
                return x.partnerOf(any(), any());
            default:
                return x.undo();
        }
    }

    private static int callOfLayers(EscapeRouter x) {
        switch (random.nextInt(12)) {
            case 0:
                return x.select(any(), any());
            case 1:
                return x.deselect(any(), any());
            case 2:
                return x.clearSelection();
            case 3:
                return x.escapeCount();
            case 4:
                return x.tileSide(any(), any());
            case 5:
                return x.cutChannels();
            case 6:
                return x.layerCount(any());
            case 7:
                return x.layerOf(any(), any(), any());
            case 8:
                return x.layerLoad(any(), any());
            case 9:
                return x.bestStrategy();
            case 10:
                return x.throughput();
            default:
                return x.lowerBound();
        }
    }

    /** Differences of such numbers wrap around: two of them must not look like neighbours. */
    private static void distantPlacesAreRefused() {
        EscapeRouter x = new EscapeRouter();
        int low = Integer.MIN_VALUE;
        int high = Integer.MAX_VALUE;
        Checks.due("makePair", x.makePair(low, 0, high, 0), EscapeRouter.INVALID_ARGUMENT);
        Checks.due("makePair", x.makePair(0, high, 0, low), EscapeRouter.INVALID_ARGUMENT);
        Checks.due("tileSide", x.tileSide(low, low), EscapeRouter.INVALID_ARGUMENT);
        Checks.due("layerOf", x.layerOf(0, high, high), EscapeRouter.INVALID_ARGUMENT);
    }
}
