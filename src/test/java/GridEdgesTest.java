/**
 * The boundary cases of "The grid", "The text" and the promises 1 to 11, a test for each sentence; the
 * sentence stands above its test.
 */
public final class GridEdgesTest {
    public static void main(String[] args) {
        constants();
        everySizeOfGrid();
        noRowAndSeventhRow();
        seventhColumn();
        numberedFromZero();
        rowsOfTiles();
        initialGrid();
        emptyAtFirst();
        codes();
        fullBuffer();
        clearText();
        longestText();
        rowsAsLongAsTheFirst();
        allowedCharacters();
        spaces();
        firstErrorCounts();
        emptyText();
        endInsideRow();
        loadRemoves();
        loadKeepsOnError();
        kindArguments();
        sameKind();
        notSignalAnyMore();
        stillSignal();
        capacities();
        signalCounts();
        Checks.finish("GridEdgesTest");
    }

    /** "The constants" */
    private static void constants() {
        Checks.due("INVALID_ARGUMENT", EscapeRouter.INVALID_ARGUMENT, -1);
        Checks.due("INVALID_STATE", EscapeRouter.INVALID_STATE, -2);
        Checks.due("LIMIT_REACHED", EscapeRouter.LIMIT_REACHED, -3);
        Checks.due("NONE", EscapeRouter.NONE, -9);
        Checks.due("NONE_THERE", EscapeRouter.NONE_THERE, 0);
        Checks.due("SIGNAL", EscapeRouter.SIGNAL, 1);
        Checks.due("POWER", EscapeRouter.POWER, 2);
    }

    /** "The grid has 1 to 6 rows and 1 to 6 columns of positions" */
    private static void everySizeOfGrid() {
        for (int rows = 1; rows <= 6; rows++) {
            for (int columns = 1; columns <= 6; columns++) {
                EscapeRouter x = Checks.loaded(Edges.gridOf('s', rows, columns));
                Checks.due("rows", x.rows(), rows);
                Checks.due("columns", x.columns(), columns);
                Checks.due("signalCount", x.signalCount(), rows * columns);
                x.setTileCapacity(9);
                x.setChannelCapacity(5);
                Checks.due("all on one layer", x.layerLoad(3, 1), rows * columns);
            }
        }
    }

    /** "The text consists of 1 to 6 rows"; "the first character of a seventh row" */
    private static void noRowAndSeventhRow() {
        error(";", 0);
        error("p;;", 2);
        error("s;s;s;s;s;s;s", 12);
        error("s;s;s;s;s;s;p;", 12);
        error("s;s;s;s;s;s;.;", 12);
        error("s;s;s;s;s;s;;", 12);
        error("s;s;s;s;s;s;x", 12);
        error("s;s;s;s;s;s;  s;", 14);
        error(Edges.FULL_GRID + "s", 42);
        error(Edges.FULL_GRID + ";", 42);
    }

    /** "A row consists of 1 to 6 of the characters"; "a seventh character of the first row" */
    private static void seventhColumn() {
        error("sssssss", 6);
        error("sp.sp.p;", 6);
        error("ssssss.", 6);
        error("sss sss s;", 8);
        error("ssssss;sssssss;", 13);
        error("p".repeat(60), 6);
    }

    /** "positions, numbered from 0"; kindAt: "INVALID_ARGUMENT if there is no such position" */
    private static void numberedFromZero() {
        EscapeRouter x = Checks.loaded("s.;pp;sp;");
        Checks.due("kindAt(0,0)", x.kindAt(0, 0), EscapeRouter.SIGNAL);
        Checks.due("kindAt(0,1)", x.kindAt(0, 1), EscapeRouter.NONE_THERE);
        Checks.due("kindAt(2,0)", x.kindAt(2, 0), EscapeRouter.SIGNAL);
        Checks.due("kindAt(2,1)", x.kindAt(2, 1), EscapeRouter.POWER);
        for (int row : Edges.outside(3)) {
            Edges.refusedArgument("kindAt of row " + row, x.kindAt(row, 0));
            Edges.refusedArgument("kindAt of row " + row, x.kindAt(row, 1));
        }
        for (int column : Edges.outside(2)) {
            Edges.refusedArgument("kindAt of column " + column, x.kindAt(0, column));
            Edges.refusedArgument("kindAt of column " + column, x.kindAt(2, column));
        }
        Edges.refusedArgument("kindAt of a column of a wider grid", x.kindAt(0, 2));
    }

    /** "With R rows and C columns there are R + 1 rows and C + 1 columns of tiles, numbered from 0." */
    private static void rowsOfTiles() {
        for (int size = 1; size <= 6; size++) {
            EscapeRouter x = Checks.loaded(Edges.gridOf('s', size, 7 - size));
            Checks.due("the first tile", x.tileSide(0, 0), 2);
            Checks.due("the last tile", x.tileSide(size, 7 - size), 2);
            Edges.refusedArgument("a row of tiles too many", x.tileSide(size + 1, 0));
            Edges.refusedArgument("a column of tiles too many", x.tileSide(0, 8 - size));
        }
    }

    /** "Initially the grid has 3 rows and 3 columns, and all positions are SIGNAL." */
    private static void initialGrid() {
        EscapeRouter x = new EscapeRouter();
        Checks.due("rows", x.rows(), 3);
        Checks.due("columns", x.columns(), 3);
        Checks.due("signalCount", x.signalCount(), 9);
        Edges.refusedArgument("kindAt(3,0)", x.kindAt(3, 0));
        Edges.refusedArgument("kindAt(0,3)", x.kindAt(0, 3));
    }

    /** Promise 1: "no pairs, nothing selected, an empty text buffer, nothing to undo" */
    private static void emptyAtFirst() {
        EscapeRouter x = new EscapeRouter();
        for (int place = 0; place < 9; place++) {
            Checks.due("partnerOf", x.partnerOf(place / 3, place % 3), EscapeRouter.NONE);
        }
        Edges.refusedState("clearSelection", x.clearSelection());
        Checks.due("escapeCount", x.escapeCount(), 0);
        Checks.due("clearText", x.clearText(), 0);
        Checks.due("loadGrid", x.loadGrid(), -10);
        Edges.refusedState("undo", x.undo());
        Checks.due("the first pair", x.makePair(0, 0, 0, 1), 1);
    }

    /** appendCharacter: "its code, 0 to 255"; "INVALID_ARGUMENT if the code is out of range" */
    private static void codes() {
        EscapeRouter x = new EscapeRouter();
        for (int code : Edges.outside(256)) {
            Edges.refusedArgument("appendCharacter(" + code + ")", x.appendCharacter(code));
        }
        Edges.refusedArgument("115 and a wrap-around of 16 bits", x.appendCharacter(65536 + 115));
        Checks.due("no refused character was kept", x.clearText(), 0);
        for (int code = 0; code < 256; code++) {
            Checks.due("appendCharacter(" + code + ")", new EscapeRouter().appendCharacter(code), 1);
        }
    }

    /** appendCharacter: "LIMIT_REACHED if the buffer holds 60 characters" */
    private static void fullBuffer() {
        EscapeRouter x = new EscapeRouter();
        Checks.type(x, " ".repeat(59));
        Checks.due("the 60th", x.appendCharacter('s'), 60);
        Checks.due("the 61st", x.appendCharacter(';'), EscapeRouter.LIMIT_REACHED);
        Checks.due("once more", x.appendCharacter(0), EscapeRouter.LIMIT_REACHED);
        Edges.refusedArgument("rather than LIMIT_REACHED", x.appendCharacter(-1));
        Edges.refusedArgument("rather than LIMIT_REACHED", x.appendCharacter(256));
        Checks.due("the 61st had no effect", x.loadGrid(), -10 - 60);
        Checks.due("clearText of a full buffer", x.clearText(), 60);
        Checks.due("there is room again", x.appendCharacter('s'), 1);
    }

    /** clearText: "Empties the text buffer. Returns the length that it had." */
    private static void clearText() {
        EscapeRouter x = new EscapeRouter();
        Checks.due("of an empty buffer", x.clearText(), 0);
        Checks.type(x, "p;");
        Checks.due("of two characters", x.clearText(), 2);
        Checks.due("once more", x.clearText(), 0);
        Checks.type(x, "ss;");
        Checks.due("only the new text counts", x.loadGrid(), 2);
        Checks.due("rows", x.rows(), 1);
    }

    /** "A grid is read from a text buffer of at most 60 characters." */
    private static void longestText() {
        EscapeRouter x = new EscapeRouter();
        Checks.type(x, " ".repeat(18) + Edges.FULL_GRID);
        Checks.due("60 characters", x.loadGrid(), 36);
        Checks.due("LIMIT_REACHED no more", x.appendCharacter('s'), 1);
    }

    /** "all rows have as many of them as the first row"; "a semicolon of a row that is too short" */
    private static void rowsAsLongAsTheFirst() {
        error("ss;s;", 4);
        error("ssssss;sssss;", 12);
        error("s;ss;", 3);
        error("s;s;;", 4);
        error("ss;ss;sss;", 8);
        error("ss;ss;s;", 7);
        error("ss;s  ;", 6);
        error("ss;ss s;", 6);
    }

    /** "the characters s (SIGNAL), p (POWER) and . (NONE_THERE), followed by a semicolon" */
    private static void allowedCharacters() {
        for (int code = 0; code < 256; code++) {
            EscapeRouter x = new EscapeRouter();
            x.appendCharacter(code);
            x.appendCharacter(';');
            boolean isKind = code == 's' || code == 'p' || code == '.';
            int wrong = code == ' ' ? 1 : 0;
            Checks.due("loadGrid of " + code, x.loadGrid(), code == 's' ? 1 : isKind ? 0 : -10 - wrong);
        }
        EscapeRouter x = Checks.loaded("p;.;s;");
        Checks.due("p", x.kindAt(0, 0), EscapeRouter.POWER);
        Checks.due(".", x.kindAt(1, 0), EscapeRouter.NONE_THERE);
        Checks.due("s", x.kindAt(2, 0), EscapeRouter.SIGNAL);
    }

    /** "Spaces (code 32) may stand anywhere and have no effect." */
    private static void spaces() {
        EscapeRouter x = Checks.loaded("   s  p ;  .s;   ");
        Checks.due("rows", x.rows(), 2);
        Checks.due("columns", x.columns(), 2);
        Checks.due("kindAt(0,1)", x.kindAt(0, 1), EscapeRouter.POWER);
        Checks.due("kindAt(1,0)", x.kindAt(1, 0), EscapeRouter.NONE_THERE);
        EscapeRouter behind = Checks.loaded(Edges.FULL_GRID + " ".repeat(18));
        Checks.due("spaces behind a sixth row", behind.rows(), 6);
        EscapeRouter between = Checks.loaded("ssssss ;ssssss ;");
        Checks.due("a space behind a sixth character", between.columns(), 6);
    }

    /** "The error offset of a text is the 0-based offset of the first character, other than a space" */
    private static void firstErrorCounts() {
        error("x", 0);
        error("  x", 2);
        error("sx;yz;", 1);
        error("ss;s;x", 4);
        error(";x", 0);
        error(" ".repeat(59) + "x", 59);
        error(" ".repeat(59) + ";", 59);
    }

    /** "If all characters are allowed but the text is empty ... the error offset is its length." */
    private static void emptyText() {
        error("", 0);
        error(" ", 1);
        error(" ".repeat(60), 60);
    }

    /** "If all characters are allowed but the text ... ends inside a row, the error offset is its length." */
    private static void endInsideRow() {
        error("s", 1);
        error("ssssss", 6);
        error("ssssss ", 7);
        error("s;s", 3);
        error("ss;s", 4);
        error("ss;s ", 5);
        error("s;s;s;s;s;s", 11);
        error(Edges.FULL_GRID.substring(0, 41), 41);
        error(" ".repeat(59) + "s", 60);
    }

    private static void error(String text, int offset) {
        EscapeRouter x = new EscapeRouter();
        Checks.type(x, text);
        Checks.due("loadGrid of <" + text + ">", x.loadGrid(), -10 - offset);
    }

    /** loadGrid: "removes all pairs and the selection, and empties the buffer. The capacities stay." */
    private static void loadRemoves() {
        EscapeRouter x = Checks.loaded(Edges.FULL_GRID, 5, 9);
        for (int row = 0; row < 6; row++) {
            x.makePair(row, 0, row, 1);
            x.select(row, 5);
        }
        Checks.type(x, Edges.FULL_GRID);
        Checks.due("loadGrid of the same grid", x.loadGrid(), 36);
        Checks.due("the buffer is empty", x.loadGrid(), -10);
        for (int row = 0; row < 6; row++) {
            Checks.due("no pair", x.partnerOf(row, 0), EscapeRouter.NONE);
            Edges.refusedState("not selected", x.deselect(row, 5));
        }
        Checks.due("the first pair", x.makePair(0, 0, 1, 0), 1);
        Checks.due("the first selected pin", x.select(5, 5), 1);
        Checks.due("the channel capacity stays", x.setChannelCapacity(0), 5);
        Checks.due("the tile capacity stays", x.setTileCapacity(0), 9);
    }

    /** loadGrid: "-10 minus the error offset if the text is in error (the buffer is kept then)" */
    private static void loadKeepsOnError() {
        EscapeRouter x = new EscapeRouter();
        x.makePair(0, 0, 0, 1);
        x.select(2, 2);
        String before = Edges.allAnswers(x);
        Checks.type(x, "pp;p");
        Checks.due("loadGrid", x.loadGrid(), -14);
        Edges.same("nothing has changed", Edges.allAnswers(x), before);
        Checks.due("the text goes on", x.appendCharacter('s'), 5);
        Checks.due("the text goes on", x.appendCharacter(';'), 6);
        Checks.due("loadGrid", x.loadGrid(), 1);
        Checks.due("undo of the only loadGrid that was an edit", x.undo(), 2);
        Edges.same("as before", Edges.allAnswers(x), before);
    }

    /** setKind: "an existing row", "an existing column", "0 to 2" */
    private static void kindArguments() {
        EscapeRouter x = Checks.loaded("sp.;sp.;");
        for (int row : Edges.outside(2)) {
            Edges.refusedArgument("setKind of row " + row, x.setKind(row, 0, 2));
        }
        for (int column : Edges.outside(3)) {
            Edges.refusedArgument("setKind of column " + column, x.setKind(1, column, 2));
        }
        for (int kind : Edges.outside(3)) {
            Edges.refusedArgument("setKind of kind " + kind, x.setKind(1, 2, kind));
        }
        Checks.due("the last position, the least kind", x.setKind(1, 2, 2), 0);
        Checks.due("the last position, the greatest kind", x.setKind(1, 2, 0), 2);
        Checks.due("the first position", x.setKind(0, 0, 0), 1);
    }

    /** setKind: "INVALID_STATE if the position is of this kind" */
    private static void sameKind() {
        EscapeRouter x = Checks.loaded(".sp;");
        for (int kind = 0; kind < 3; kind++) {
            Edges.refusedState("kind " + kind, x.setKind(0, kind, kind));
        }
        Checks.due("no edit", x.undo(), 0);
    }

    /** setKind: "If the position was SIGNAL and is not any more, its pair is broken, and it is removed" */
    private static void notSignalAnyMore() {
        for (int kind = 0; kind < 3; kind += 2) {
            EscapeRouter x = new EscapeRouter();
            x.makePair(0, 0, 0, 1);
            x.makePair(2, 1, 2, 2);
            x.select(0, 1);
            x.select(2, 2);
            Checks.due("setKind", x.setKind(0, 1, kind), EscapeRouter.SIGNAL);
            Checks.due("the pair of its partner", x.partnerOf(0, 0), EscapeRouter.NONE);
            Checks.due("its own pair", x.partnerOf(0, 1), EscapeRouter.NONE);
            Checks.due("another pair", x.partnerOf(2, 1), 22);
            Edges.refusedState("it is not selected", x.deselect(0, 1));
            Checks.due("another one is", x.deselect(2, 2), 0);
            Checks.due("it was the first of two pairs", x.breakPair(2, 2), 0);
        }
    }

    /** setKind, the other way: what is not SIGNAL and becomes so has no pair and is not selected */
    private static void stillSignal() {
        EscapeRouter x = Checks.loaded("s.p;sss;");
        x.makePair(1, 1, 1, 2);
        x.select(1, 0);
        Checks.due("NONE_THERE to POWER", x.setKind(0, 1, 2), 0);
        Checks.due("POWER to SIGNAL", x.setKind(0, 1, 1), 2);
        Checks.due("POWER to NONE_THERE", x.setKind(0, 2, 0), 2);
        Checks.due("no pair is broken", x.partnerOf(1, 1), 12);
        Checks.due("the selection stays", x.deselect(1, 0), 0);
        Edges.refusedState("the new pin is not selected", x.deselect(0, 1));
        Checks.due("and can be", x.select(0, 1), 1);
        Checks.due("and can be in a pair", x.makePair(0, 1, 0, 0), 2);
    }

    /** "The tile capacity (0 to 9, initially 2)"; "The channel capacity (0 to 5, initially 1)" */
    private static void capacities() {
        EscapeRouter x = new EscapeRouter();
        for (int capacity : Edges.outside(6)) {
            Edges.refusedArgument("setChannelCapacity(" + capacity + ")", x.setChannelCapacity(capacity));
        }
        for (int capacity : Edges.outside(10)) {
            Edges.refusedArgument("setTileCapacity(" + capacity + ")", x.setTileCapacity(capacity));
        }
        Edges.refusedState("no refused call was an edit", x.undo());
        int before = 1;
        for (int capacity = 0; capacity <= 5; capacity++) {
            Checks.due("setChannelCapacity(" + capacity + ")", x.setChannelCapacity(capacity), before);
            before = capacity;
        }
        before = 2;
        for (int capacity = 0; capacity <= 9; capacity++) {
            Checks.due("setTileCapacity(" + capacity + ")", x.setTileCapacity(capacity), before);
            before = capacity;
        }
    }

    /** signalCount: "Returns the number of SIGNAL pins.", from none to all */
    private static void signalCounts() {
        EscapeRouter x = Checks.loaded(Edges.gridOf('.', 6, 6));
        for (int place = 0; place < 36; place++) {
            Checks.due("signalCount", x.signalCount(), place);
            Checks.due("setKind", x.setKind(place / 6, place % 6, 1), 0);
        }
        Checks.due("all", x.signalCount(), 36);
        for (int place = 0; place < 36; place++) {
            Checks.due("setKind", x.setKind(place / 6, place % 6, 2), 1);
            Checks.due("signalCount", x.signalCount(), 35 - place);
        }
    }
}
