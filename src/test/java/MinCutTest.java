import java.util.ArrayList;
import java.util.List;
import java.util.Random;

/**
 * Promises 18 to 20 on tiny grids, straight from the words of the document: it looks at every set of
 * nodes as a source side, and takes the smallest one whose cut is a minimum.
 */
public final class MinCutTest {
    private final int rows;
    private final int columns;
    private final EscapeRouter router;
    private final boolean[] isPin;
    private final List<int[]> edges = new ArrayList<>();
    private final List<int[]> channels = new ArrayList<>();

    private MinCutTest(int rows, int columns, Random random) {
        this.rows = rows;
        this.columns = columns;
        isPin = new boolean[rows * columns];
        StringBuilder text = new StringBuilder();
        for (int place = 0; place < rows * columns; place++) {
            text.append("ssssp.".charAt(random.nextInt(6)));
            if (place % columns == columns - 1) {
                text.append(';');
            }
        }
        int tileCapacity = random.nextInt(10) < 8 ? random.nextInt(2) : 2;
        int channelCapacity = random.nextInt(2);
        router = Checks.loaded(text.toString(), channelCapacity, tileCapacity);
        for (int place = 0; place < rows * columns; place++) {
            boolean signal = router.kindAt(place / columns, place % columns) == EscapeRouter.SIGNAL;
            isPin[place] = signal && random.nextInt(6) > 0;
            if (isPin[place]) {
                router.select(place / columns, place % columns);
            }
        }
        build(channelCapacity, tileCapacity);
    }

    public static void main(String[] args) {
        Random random = new Random(27);
        for (int i = 0; i < 60; i++) {
            new MinCutTest(1, 1, random).check();
            new MinCutTest(1, 2, random).check();
            new MinCutTest(2, 1, random).check();
        }
        for (int i = 0; i < 8; i++) {
            new MinCutTest(3, 1, random).check();
            new MinCutTest(2, 2, random).check();
        }
        Checks.finish("MinCutTest");
    }

    private int pin(int place) {
        return place;
    }

    private int tile(int row, int column) {
        return row * (columns + 1) + column;
    }

    private int entrance(int tile) {
        return rows * columns + 2 * tile;
    }

    private int exit(int tile) {
        return entrance(tile) + 1;
    }

    private int nodes() {
        return rows * columns + 2 * (rows + 1) * (columns + 1);
    }

    /** The edges between inner nodes; node -1 is the source, and an edge to -2 goes to the sink. */
    private void build(int channelCapacity, int tileCapacity) {
        for (int row = 0; row <= rows; row++) {
            for (int column = 0; column <= columns; column++) {
                int tile = tile(row, column);
                edges.add(new int[] {entrance(tile), exit(tile), tileCapacity});
                if (row == 0 || row == rows || column == 0 || column == columns) {
                    edges.add(new int[] {exit(tile), -2, 1000});
                }
            }
        }
        for (int row = 0; row < rows; row++) {
            for (int column = 0; column < columns; column++) {
                buildPosition(row, column, channelCapacity);
            }
        }
    }

    private void buildPosition(int row, int column, int channelCapacity) {
        int place = row * columns + column;
        if (isPin[place]) {
            edges.add(new int[] {-1, pin(place), 1});
            for (int i = 0; i < 4; i++) {
                edges.add(new int[] {pin(place), entrance(tile(row + i / 2, column + i % 2)), 1});
            }
        }
        if (column + 1 < columns) {
            int open = open(row, column) + open(row, column + 1);
            channel(tile(row, column + 1), tile(row + 1, column + 1), channelCapacity + open);
        }
        if (row + 1 < rows) {
            int open = open(row, column) + open(row + 1, column);
            channel(tile(row + 1, column), tile(row + 1, column + 1), channelCapacity + open);
        }
    }

    private int open(int row, int column) {
        return router.kindAt(row, column) == EscapeRouter.NONE_THERE ? 1 : 0;
    }

    private void channel(int a, int b, int capacity) {
        edges.add(new int[] {exit(a), entrance(b), capacity});
        edges.add(new int[] {exit(b), entrance(a), capacity});
        channels.add(new int[] {a, b});
    }

    private static boolean inside(int set, int node) {
        return node == -1 || node >= 0 && (set >> node & 1) != 0;
    }

    private void check() {
        int best = Integer.MAX_VALUE;
        int near = 0;
        int[][] all = edges.toArray(new int[0][]);
        for (int set = 0; set < 1 << nodes(); set++) {
            int value = 0;
            for (int[] edge : all) {
                if (inside(set, edge[0]) && !inside(set, edge[1])) {
                    value += edge[2];
                }
            }
            if (value < best || value == best && Integer.bitCount(set) < Integer.bitCount(near)) {
                best = value;
                near = set;
            }
        }
        Checks.due("escapeCount", router.escapeCount(), best);
        for (int row = 0; row <= rows; row++) {
            for (int column = 0; column <= columns; column++) {
                int tile = tile(row, column);
                int side = !inside(near, entrance(tile)) ? 2 : inside(near, exit(tile)) ? 0 : 1;
                Checks.due("tileSide", router.tileSide(row, column), side);
            }
        }
        int cut = 0;
        for (int[] channel : channels) {
            boolean there = inside(near, exit(channel[0])) && !inside(near, entrance(channel[1]));
            boolean back = inside(near, exit(channel[1])) && !inside(near, entrance(channel[0]));
            cut += there || back ? 1 : 0;
        }
        Checks.due("cutChannels", router.cutChannels(), cut);
    }
}
