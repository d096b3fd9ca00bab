/** Promises 1 to 11: the grid. */
public final class GridTest {
    public static void main(String[] args) {
        promise1();
        promise2();
        promise3();
        promise4Grids();
        promise4Errors();
        promise5();
        promise6();
        promise7();
        promises8To11();
        Checks.finish("GridTest");
    }

    private static void promise1() {
        EscapeRouter x = new EscapeRouter();
        Checks.due("rows", x.rows(), 3);
        Checks.due("columns", x.columns(), 3);
        for (int row = 0; row < 3; row++) {
            for (int column = 0; column < 3; column++) {
                Checks.due("kindAt", x.kindAt(row, column), EscapeRouter.SIGNAL);
                Checks.due("partnerOf", x.partnerOf(row, column), EscapeRouter.NONE);
                Checks.due("deselect", x.deselect(row, column), EscapeRouter.INVALID_STATE);
            }
        }
        Checks.due("clearText", x.clearText(), 0);
        Checks.due("undo", x.undo(), EscapeRouter.INVALID_STATE);
        Checks.due("setChannelCapacity", x.setChannelCapacity(0), 1);
        Checks.due("setTileCapacity", x.setTileCapacity(0), 2);
    }

    private static void promise2() {
        EscapeRouter x = new EscapeRouter();
        Checks.due("-1", x.appendCharacter(-1), EscapeRouter.INVALID_ARGUMENT);
        Checks.due("256", x.appendCharacter(256), EscapeRouter.INVALID_ARGUMENT);
        for (int i = 0; i < 60; i++) {
            Checks.due("append " + i, x.appendCharacter(i == 0 ? 0 : 255), i + 1);
        }
        Checks.due("the 61st", x.appendCharacter(32), EscapeRouter.LIMIT_REACHED);
        Checks.due("256 in a full buffer", x.appendCharacter(256), EscapeRouter.INVALID_ARGUMENT);
        Checks.due("clearText", x.clearText(), 60);
        Checks.due("append again", x.appendCharacter(115), 1);
    }

    private static void promise3() {
        EscapeRouter x = new EscapeRouter();
        Checks.type(x, "pp;");
        Checks.due("clearText", x.clearText(), 3);
        Checks.due("clearText again", x.clearText(), 0);
        Checks.due("loadGrid after it", x.loadGrid(), -10);
        Checks.due("undo: clearText is no edit", x.undo(), EscapeRouter.INVALID_STATE);
    }

    private static void promise4Grids() {
        EscapeRouter x = new EscapeRouter();
        x.setTileCapacity(7);
        x.setChannelCapacity(4);
        x.makePair(0, 0, 0, 1);
        x.select(0, 0);
        Checks.type(x, " s p;. s ; ss; ");
        Checks.due("loadGrid", x.loadGrid(), 4);
        Checks.due("the buffer is empty", x.clearText(), 0);
        Checks.due("rows", x.rows(), 3);
        Checks.due("columns", x.columns(), 2);
        Checks.due("(0,0)", x.kindAt(0, 0), EscapeRouter.SIGNAL);
        Checks.due("(0,1)", x.kindAt(0, 1), EscapeRouter.POWER);
        Checks.due("(1,0)", x.kindAt(1, 0), EscapeRouter.NONE_THERE);
        Checks.due("(1,1)", x.kindAt(1, 1), EscapeRouter.SIGNAL);
        Checks.due("(2,1)", x.kindAt(2, 1), EscapeRouter.SIGNAL);
        Checks.due("no pair is left", x.partnerOf(0, 0), EscapeRouter.NONE);
        Checks.due("no selection is left", x.clearSelection(), EscapeRouter.INVALID_STATE);
        Checks.due("the tile capacity stays", x.setTileCapacity(1), 7);
        Checks.due("the channel capacity stays", x.setChannelCapacity(1), 4);
        EscapeRouter largest = Checks.loaded("ssssss;ssssss;ssssss;ssssss;ssssss;ssssss;");
        Checks.due("rows", largest.rows(), 6);
        Checks.due("columns", largest.columns(), 6);
        Checks.due("kindAt(5,5)", largest.kindAt(5, 5), EscapeRouter.SIGNAL);
        EscapeRouter smallest = Checks.loaded("p;");
        Checks.due("rows", smallest.rows(), 1);
        Checks.due("columns", smallest.columns(), 1);
        EscapeRouter smaller = Checks.loaded("ss;ss;");
        Checks.due("no pin is left outside the grid", smaller.signalCount(), 4);
    }

    private static void promise4Errors() {
        error("", 0);
        error("   ", 3);
        error(";", 0);
        error("  ;", 2);
        error("s", 1);
        error("s  ", 3);
        error("ss;s", 4);
        error("ss;s ;", 5);
        error("ss;sss;", 5);
        error("sssssss;", 6);
        error("ss;;", 3);
        error("s;s;s;s;s;s;s;", 12);
        error("s;s;s;s;s;s; ;", 13);
        error("s;s;s;s;s;s; x", 13);
        error("S;", 0);
        error("s x", 2);
        error("s\t;", 1);
        error("s;P;", 2);
        String spaces = " ".repeat(60);
        error(spaces, 60);
    }

    private static void error(String text, int offset) {
        EscapeRouter x = new EscapeRouter();
        Checks.type(x, text);
        Checks.due("loadGrid of <" + text + ">", x.loadGrid(), -10 - offset);
        Checks.due("loadGrid again", x.loadGrid(), -10 - offset);
        Checks.due("the grid stays", x.signalCount() * 10 + x.rows(), 93);
        Checks.due("no edit", x.undo(), EscapeRouter.INVALID_STATE);
        Checks.due("the buffer is kept", x.clearText(), text.length());
    }

    private static void promise5() {
        EscapeRouter x = new EscapeRouter();
        Checks.due("row -1", x.setKind(-1, 0, 0), EscapeRouter.INVALID_ARGUMENT);
        Checks.due("row 3", x.setKind(3, 0, 0), EscapeRouter.INVALID_ARGUMENT);
        Checks.due("column -1", x.setKind(0, -1, 0), EscapeRouter.INVALID_ARGUMENT);
        Checks.due("column 3", x.setKind(0, 3, 0), EscapeRouter.INVALID_ARGUMENT);
        Checks.due("kind -1", x.setKind(0, 0, -1), EscapeRouter.INVALID_ARGUMENT);
        Checks.due("kind 3", x.setKind(0, 0, 3), EscapeRouter.INVALID_ARGUMENT);
        Checks.due("same kind", x.setKind(0, 0, 1), EscapeRouter.INVALID_STATE);
        x.makePair(1, 1, 1, 2);
        x.select(1, 1);
        x.select(1, 2);
        Checks.due("to POWER", x.setKind(1, 1, 2), EscapeRouter.SIGNAL);
        Checks.due("its pair is broken", x.partnerOf(1, 2), EscapeRouter.NONE);
        Checks.due("on both sides", x.partnerOf(1, 1), EscapeRouter.NONE);
        Checks.due("it is not selected", x.deselect(1, 1), EscapeRouter.INVALID_STATE);
        Checks.due("to NONE_THERE", x.setKind(1, 1, 0), EscapeRouter.POWER);
        Checks.due("to SIGNAL", x.setKind(1, 1, 1), EscapeRouter.NONE_THERE);
        Checks.due("still not selected", x.deselect(1, 1), EscapeRouter.INVALID_STATE);
        Checks.due("still no pair", x.partnerOf(1, 1), EscapeRouter.NONE);
        Checks.due("the other one stays selected", x.clearSelection(), 1);
    }

    private static void promise6() {
        EscapeRouter x = new EscapeRouter();
        Checks.due("-1", x.setChannelCapacity(-1), EscapeRouter.INVALID_ARGUMENT);
        Checks.due("6", x.setChannelCapacity(6), EscapeRouter.INVALID_ARGUMENT);
        Checks.due("5", x.setChannelCapacity(5), 1);
        Checks.due("5 again", x.setChannelCapacity(5), 5);
        Checks.due("0", x.setChannelCapacity(0), 5);
        Checks.due("undo", x.undo(), 2);
        Checks.due("it was 5", x.setChannelCapacity(1), 5);
    }

    private static void promise7() {
        EscapeRouter x = new EscapeRouter();
        Checks.due("-1", x.setTileCapacity(-1), EscapeRouter.INVALID_ARGUMENT);
        Checks.due("10", x.setTileCapacity(10), EscapeRouter.INVALID_ARGUMENT);
        Checks.due("9", x.setTileCapacity(9), 2);
        Checks.due("9 again", x.setTileCapacity(9), 9);
        Checks.due("0", x.setTileCapacity(0), 9);
        Checks.due("undo", x.undo(), 2);
        Checks.due("it was 9", x.setTileCapacity(1), 9);
    }

    private static void promises8To11() {
        EscapeRouter x = Checks.loaded("sp.ssp;....ss;");
        Checks.due("rows", x.rows(), 2);
        Checks.due("columns", x.columns(), 6);
        Checks.due("signalCount", x.signalCount(), 5);
        Checks.due("kindAt(1,5)", x.kindAt(1, 5), EscapeRouter.SIGNAL);
        Checks.due("kindAt(0,5)", x.kindAt(0, 5), EscapeRouter.POWER);
        Checks.due("kindAt(1,0)", x.kindAt(1, 0), EscapeRouter.NONE_THERE);
        Checks.due("kindAt(2,0)", x.kindAt(2, 0), EscapeRouter.INVALID_ARGUMENT);
        Checks.due("kindAt(0,6)", x.kindAt(0, 6), EscapeRouter.INVALID_ARGUMENT);
        Checks.due("kindAt(-1,0)", x.kindAt(-1, 0), EscapeRouter.INVALID_ARGUMENT);
        Checks.due("kindAt(0,-1)", x.kindAt(0, -1), EscapeRouter.INVALID_ARGUMENT);
        x.setKind(0, 0, 2);
        Checks.due("signalCount", x.signalCount(), 4);
        x.undo();
        Checks.due("signalCount", x.signalCount(), 5);
    }
}
