/** Promise 27: undo, and which calls are edits. */
public final class UndoTest {
    public static void main(String[] args) {
        nothingToUndo();
        everyEditIsUndone();
        onlyEightAreKept();
        otherCallsAreNoEdits();
        theTextIsNotRestored();
        Checks.finish("UndoTest");
    }

    private static void nothingToUndo() {
        EscapeRouter x = new EscapeRouter();
        Checks.due("undo", x.undo(), EscapeRouter.INVALID_STATE);
        x.select(0, 0);
        Checks.due("undo", x.undo(), 0);
        Checks.due("undo again", x.undo(), EscapeRouter.INVALID_STATE);
    }

    private static void everyEditIsUndone() {
        EscapeRouter x = new EscapeRouter();
        x.setChannelCapacity(3);
        x.setTileCapacity(4);
        x.makePair(0, 0, 0, 1);
        x.select(0, 0);
        x.select(0, 2);
        Checks.type(x, "p;");
        Checks.due("loadGrid", x.loadGrid(), 0);
        Checks.due("undo of loadGrid", x.undo(), 5);
        Checks.due("rows", x.rows(), 3);
        Checks.due("signalCount", x.signalCount(), 9);
        Checks.due("partnerOf", x.partnerOf(0, 1), 0);
        Checks.due("clearSelection", x.clearSelection(), 2);
        Checks.due("undo of clearSelection", x.undo(), 5);
        Checks.due("deselect", x.deselect(0, 2), 1);
        Checks.due("undo of deselect", x.undo(), 5);
        Checks.due("breakPair", x.breakPair(0, 1), 0);
        Checks.due("undo of breakPair", x.undo(), 5);
        Checks.due("setKind", x.setKind(0, 0, 2), 1);
        Checks.due("undo of setKind", x.undo(), 5);
        Checks.due("kindAt", x.kindAt(0, 0), 1);
        Checks.due("partnerOf", x.partnerOf(0, 0), 1);
        Checks.due("select", x.select(0, 0), EscapeRouter.INVALID_STATE);
        Checks.due("undo of select", x.undo(), 4);
        Checks.due("undo of select", x.undo(), 3);
        Checks.due("clearSelection", x.clearSelection(), EscapeRouter.INVALID_STATE);
        Checks.due("undo of makePair", x.undo(), 2);
        Checks.due("partnerOf", x.partnerOf(0, 0), EscapeRouter.NONE);
        Checks.due("undo of setTileCapacity", x.undo(), 1);
        Checks.due("undo of setChannelCapacity", x.undo(), 0);
        Checks.due("tile capacity", x.setTileCapacity(2), 2);
        Checks.due("channel capacity", x.setChannelCapacity(1), 1);
        Checks.due("an edit that changes nothing is one", x.undo(), 1);
    }

    private static void onlyEightAreKept() {
        EscapeRouter x = new EscapeRouter();
        for (int i = 0; i < 10; i++) {
            x.setTileCapacity(i);
        }
        Checks.due("undo of the tenth", x.undo(), 7);
        Checks.due("a new edit", x.setTileCapacity(5), 8);
        Checks.due("undo of it", x.undo(), 7);
        for (int left = 6; left >= 0; left--) {
            Checks.due("undo", x.undo(), left);
        }
        Checks.due("no more", x.undo(), EscapeRouter.INVALID_STATE);
        Checks.due("two edits stay", x.setTileCapacity(2), 1);
        for (int i = 0; i < 100; i++) {
            x.setTileCapacity(i % 10);
        }
        for (int left = 7; left >= 0; left--) {
            Checks.due("undo", x.undo(), left);
        }
        Checks.due("as 92 edits left it", x.setTileCapacity(0), 1);
    }

    private static void otherCallsAreNoEdits() {
        EscapeRouter x = new EscapeRouter();
        x.setKind(0, 0, 2);
        x.setKind(0, 0, 2);
        x.setKind(9, 0, 2);
        x.setChannelCapacity(6);
        x.setTileCapacity(-1);
        x.makePair(0, 0, 0, 1);
        x.makePair(1, 1, 2, 2);
        x.breakPair(1, 1);
        x.select(0, 0);
        x.deselect(1, 1);
        x.clearSelection();
        x.appendCharacter('s');
        x.loadGrid();
        x.clearText();
        x.escapeCount();
        x.cutChannels();
        x.tileSide(0, 0);
        x.layerCount(0);
        x.layerOf(0, 1, 1);
        x.layerLoad(0, 1);
        x.bestStrategy();
        x.throughput();
        x.lowerBound();
        Checks.due("undo of the only edit", x.undo(), 0);
        Checks.due("kindAt", x.kindAt(0, 0), 1);
        Checks.due("undo", x.undo(), EscapeRouter.INVALID_STATE);
    }

    private static void theTextIsNotRestored() {
        EscapeRouter x = Checks.loaded("ss;");
        x.appendCharacter('p');
        Checks.due("undo", x.undo(), 0);
        Checks.due("rows", x.rows(), 3);
        Checks.due("clearText", x.clearText(), 1);
    }
}
