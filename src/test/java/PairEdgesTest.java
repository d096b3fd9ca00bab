/** The boundary cases of "Pairs" and the promises 12 to 14, a test for each sentence. */
public final class PairEdgesTest {
    public static void main(String[] args) {
        noSuchPosition();
        notNeighbours();
        everyNeighbour();
        notSignal();
        atMostOnePair();
        mostPairs();
        argumentBeforeState();
        breakPair();
        partnerOf();
        Checks.finish("PairEdgesTest");
    }

    /** makePair: "INVALID_ARGUMENT if there is no such position" */
    private static void noSuchPosition() {
        EscapeRouter x = Checks.loaded("ss;ss;ss;");
        for (int row : Edges.outside(3)) {
            Edges.refusedArgument("row " + row, x.makePair(row, 0, 0, 0));
            Edges.refusedArgument("other row " + row, x.makePair(2, 0, row, 0));
            Edges.refusedArgument("both rows " + row, x.makePair(row, 0, row, 1));
            Edges.refusedArgument("rows side by side", x.makePair(row, 0, row + 1, 0));
            Edges.refusedArgument("rows side by side", x.makePair(row - 1, 0, row, 0));
        }
        for (int column : Edges.outside(2)) {
            Edges.refusedArgument("column " + column, x.makePair(0, column, 0, 0));
            Edges.refusedArgument("other column " + column, x.makePair(0, 1, 0, column));
            Edges.refusedArgument("both columns " + column, x.makePair(0, column, 1, column));
            Edges.refusedArgument("columns side by side", x.makePair(0, column, 0, column + 1));
            Edges.refusedArgument("columns side by side", x.makePair(0, column - 1, 0, column));
        }
        Checks.due("no pair was made: undo of loadGrid", x.undo(), 0);
    }

    /** makePair: "or if the positions are not neighbours" */
    private static void notNeighbours() {
        for (int place = 0; place < 36; place++) {
            EscapeRouter x = Checks.loaded(Edges.FULL_GRID);
            for (int other = 0; other < 36; other++) {
                int rows = Math.abs(place / 6 - other / 6);
                int columns = Math.abs(place % 6 - other % 6);
                if (rows * rows + columns * columns != 1) {
                    String call = "makePair of " + place + " and " + other;
                    Edges.refusedArgument(call, x.makePair(place / 6, place % 6, other / 6, other % 6));
                }
            }
        }
    }

    /** "Two neighbouring SIGNAL pins (in the same row or the same column) can be made a pair." */
    private static void everyNeighbour() {
        int[] rowSteps = {-1, 0, 0, 1};
        int[] columnSteps = {0, -1, 1, 0};
        for (int i = 0; i < 4; i++) {
            EscapeRouter x = new EscapeRouter();
            int row = 1 + rowSteps[i];
            int column = 1 + columnSteps[i];
            Checks.due("makePair", x.makePair(1, 1, row, column), 1);
            Checks.due("partnerOf the first", x.partnerOf(1, 1), 10 * row + column);
            Checks.due("partnerOf the second", x.partnerOf(row, column), 11);
        }
    }

    /** makePair: "INVALID_STATE if one of them is not SIGNAL" */
    private static void notSignal() {
        EscapeRouter x = Checks.loaded("sp;.s;");
        Edges.refusedState("POWER second", x.makePair(0, 0, 0, 1));
        Edges.refusedState("POWER first", x.makePair(0, 1, 1, 1));
        Edges.refusedState("NONE_THERE second", x.makePair(0, 0, 1, 0));
        Edges.refusedState("NONE_THERE first", x.makePair(1, 0, 1, 1));
        EscapeRouter none = Checks.loaded("pp.;");
        Edges.refusedState("neither is SIGNAL", none.makePair(0, 0, 0, 1));
        Edges.refusedState("neither is SIGNAL", none.makePair(0, 1, 0, 2));
    }

    /** "A pin belongs to at most one pair."; makePair: "INVALID_STATE if one of them ... belongs to a pair" */
    private static void atMostOnePair() {
        EscapeRouter x = Checks.loaded("ssss;ssss;");
        Checks.due("makePair", x.makePair(0, 1, 0, 2), 1);
        Edges.refusedState("the same pair", x.makePair(0, 1, 0, 2));
        Edges.refusedState("the same pair turned round", x.makePair(0, 2, 0, 1));
        Edges.refusedState("the first has one", x.makePair(0, 1, 0, 0));
        Edges.refusedState("the first has one", x.makePair(0, 2, 1, 2));
        Edges.refusedState("the second has one", x.makePair(0, 0, 0, 1));
        Edges.refusedState("the second has one", x.makePair(0, 3, 0, 2));
        Checks.due("makePair", x.makePair(1, 1, 1, 2), 2);
        Edges.refusedState("both have one", x.makePair(0, 1, 1, 1));
    }

    /** makePair: "Returns the number of pairs afterwards", up to a full grid and down to none again */
    private static void mostPairs() {
        EscapeRouter x = Checks.loaded(Edges.FULL_GRID);
        for (int i = 0; i < 18; i++) {
            int row = i / 3;
            int column = i % 3 * 2;
            Checks.due("makePair", x.makePair(row, column + 1, row, column), i + 1);
        }
        for (int i = 0; i < 18; i++) {
            int row = i / 3;
            int column = i % 3 * 2;
            Checks.due("breakPair", x.breakPair(row, column + i % 2), 17 - i);
        }
    }

    /** "INVALID_ARGUMENT is returned rather than INVALID_STATE" */
    private static void argumentBeforeState() {
        EscapeRouter x = Checks.loaded("spp;ss.;");
        x.makePair(1, 0, 1, 1);
        Edges.refusedArgument("POWER, and no such position", x.makePair(0, 2, 0, 3));
        Edges.refusedArgument("no such position, and POWER", x.makePair(-1, 2, 0, 2));
        Edges.refusedArgument("POWER, and no neighbours", x.makePair(0, 2, 1, 1));
        Edges.refusedArgument("POWER with itself", x.makePair(0, 1, 0, 1));
        Edges.refusedArgument("a pin of a pair with itself", x.makePair(1, 0, 1, 0));
        Edges.refusedArgument("a pin of a pair, and no such position", x.makePair(1, 0, 2, 0));
        Edges.refusedArgument("a pin of a pair, and no neighbours", x.makePair(1, 1, 0, 0));
    }

    /** breakPair: "INVALID_ARGUMENT if there is no such position; INVALID_STATE if it belongs to no pair" */
    private static void breakPair() {
        EscapeRouter x = Checks.loaded("ssp;ss.;");
        x.makePair(0, 0, 1, 0);
        for (int row : Edges.outside(2)) {
            Edges.refusedArgument("row " + row, x.breakPair(row, 0));
        }
        for (int column : Edges.outside(3)) {
            Edges.refusedArgument("column " + column, x.breakPair(0, column));
            Edges.refusedArgument("column " + column, x.breakPair(1, column));
        }
        Edges.refusedState("SIGNAL without a pair", x.breakPair(0, 1));
        Edges.refusedState("POWER", x.breakPair(0, 2));
        Edges.refusedState("NONE_THERE", x.breakPair(1, 2));
        Checks.due("the pair is still there", x.partnerOf(1, 0), 0);
        Checks.due("breakPair", x.breakPair(1, 0), 0);
        Edges.refusedState("again", x.breakPair(1, 0));
        Edges.refusedState("its partner", x.breakPair(0, 0));
    }

    /** partnerOf: "INVALID_ARGUMENT if there is no such position; NONE if it belongs to no pair" */
    private static void partnerOf() {
        EscapeRouter x = Checks.loaded("ssp;ss.;");
        x.makePair(0, 0, 0, 1);
        for (int row : Edges.outside(2)) {
            Edges.refusedArgument("row " + row, x.partnerOf(row, 0));
        }
        for (int column : Edges.outside(3)) {
            Edges.refusedArgument("column " + column, x.partnerOf(0, column));
        }
        Checks.due("the least answer", x.partnerOf(0, 1), 0);
        Checks.due("SIGNAL without a pair", x.partnerOf(1, 0), EscapeRouter.NONE);
        Checks.due("POWER", x.partnerOf(0, 2), EscapeRouter.NONE);
        Checks.due("NONE_THERE", x.partnerOf(1, 2), EscapeRouter.NONE);
        EscapeRouter full = Checks.loaded(Edges.FULL_GRID);
        full.makePair(5, 4, 5, 5);
        Checks.due("the greatest answer", full.partnerOf(5, 4), 55);
        Checks.due("the other way", full.partnerOf(5, 5), 54);
    }
}
