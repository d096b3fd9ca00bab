/** What the boundary tests share: numbers outside a range, and all that can be seen of a router. */
final class Edges {
    static final String FULL_GRID = "ssssss;ssssss;ssssss;ssssss;ssssss;ssssss;";

    private Edges() {
    }

    /**
     * Numbers that are not among 0 to size - 1: the two beside that range, those that six or seven times
     * wrap around into it, and the ends of int.
     */
    static int[] outside(int size) {
        return new int[] {
            -1, size, -6, -7, size + 6, size + 7, 715827883, -715827882, 613566757, -613566756,
            Integer.MIN_VALUE, Integer.MIN_VALUE + 1, Integer.MAX_VALUE - 1, Integer.MAX_VALUE
        };
    }

    static void refusedArgument(String call, int got) {
        Checks.due(call, got, EscapeRouter.INVALID_ARGUMENT);
    }

    static void refusedState(String call, int got) {
        Checks.due(call, got, EscapeRouter.INVALID_STATE);
    }

    static void same(String what, String got, String want) {
        Checks.holds(what + " answers " + got + ", due is " + want, got.equals(want));
    }

    /** A grid of one character, each row as long as the others. */
    static String gridOf(char character, int rows, int columns) {
        return (String.valueOf(character).repeat(columns) + ";").repeat(rows);
    }

    /** The sides of all tiles, a row of tiles behind the other. */
    static String sides(EscapeRouter x) {
        int rows = x.rows();
        int columns = x.columns();
        StringBuilder sides = new StringBuilder();
        for (int row = 0; row <= rows; row++) {
            for (int column = 0; column <= columns; column++) {
                sides.append(x.tileSide(row, column));
            }
            sides.append('/');
        }
        return sides.toString();
    }

    /** The layers of all positions under a strategy, "-" where there is none. */
    static String layers(EscapeRouter x, int strategy) {
        int rows = x.rows();
        int columns = x.columns();
        StringBuilder layers = new StringBuilder();
        for (int row = 0; row < rows; row++) {
            for (int column = 0; column < columns; column++) {
                int layer = x.layerOf(strategy, row, column);
                layers.append(layer == EscapeRouter.NONE ? "-" : String.valueOf(layer));
            }
            layers.append('/');
        }
        return layers.toString();
    }

    /** The kinds and partners of all positions. */
    private static String positions(EscapeRouter x) {
        int rows = x.rows();
        int columns = x.columns();
        StringBuilder positions = new StringBuilder();
        for (int row = 0; row < rows; row++) {
            for (int column = 0; column < columns; column++) {
                positions.append(x.kindAt(row, column)).append(':').append(x.partnerOf(row, column)).append(' ');
            }
            positions.append('/');
        }
        return positions.toString();
    }

    /** Everything that calls without an effect can tell, with some 150 calls for 16 positions. */
    static String allAnswers(EscapeRouter x) {
        StringBuilder all = new StringBuilder();
        all.append(x.signalCount()).append(' ').append(positions(x)).append(' ');
        all.append(x.escapeCount()).append(' ').append(sides(x)).append(' ').append(x.cutChannels()).append(' ');
        for (int strategy = 0; strategy < 4; strategy++) {
            all.append(x.layerCount(strategy)).append(' ').append(layers(x, strategy)).append(' ');
            for (int layer = 1; layer < 4; layer++) {
                all.append(x.layerLoad(strategy, layer)).append(' ');
            }
        }
        all.append(x.bestStrategy()).append(' ').append(x.throughput()).append(' ').append(x.lowerBound());
        return all.toString();
    }
}
