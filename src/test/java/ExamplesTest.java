/** The four examples of the document. */
public final class ExamplesTest {
    public static void main(String[] args) {
        example1();
        example2();
        example3();
        example4();
        Checks.finish("ExamplesTest");
    }

    private static void example1() {
        EscapeRouter x = new EscapeRouter();
        Checks.due("setTileCapacity(1)", x.setTileCapacity(1), 2);
        Checks.due("setChannelCapacity(0)", x.setChannelCapacity(0), 1);
        Checks.due("layerCount(0)", x.layerCount(0), 2);
        Checks.due("layerOf(0,1,1)", x.layerOf(0, 1, 1), 2);
        Checks.due("layerLoad(0,1)", x.layerLoad(0, 1), 8);
        Checks.due("throughput()", x.throughput(), 12);
        Checks.due("lowerBound()", x.lowerBound(), 1);
        Checks.due("select(1,1)", x.select(1, 1), 1);
        Checks.due("escapeCount()", x.escapeCount(), 0);
        Checks.due("tileSide(1,1)", x.tileSide(1, 1), 0);
        Checks.due("tileSide(0,0)", x.tileSide(0, 0), 2);
        Checks.due("cutChannels()", x.cutChannels(), 8);
    }

    private static void example2() {
        EscapeRouter x = Checks.loaded("ss;ss;");
        Checks.due("setTileCapacity(1)", x.setTileCapacity(1), 2);
        Checks.due("select(0,0)", x.select(0, 0), 1);
        Checks.due("select(0,1)", x.select(0, 1), 2);
        Checks.due("select(1,0)", x.select(1, 0), 3);
        Checks.due("select(1,1)", x.select(1, 1), 4);
        Checks.due("escapeCount()", x.escapeCount(), 4);
        Checks.due("makePair(0,0,0,1)", x.makePair(0, 0, 0, 1), 1);
        Checks.due("partnerOf(0,1)", x.partnerOf(0, 1), 0);
        Checks.due("layerOf(0,0,1)", x.layerOf(0, 0, 1), 1);
        Checks.due("layerCount(0)", x.layerCount(0), 1);
    }

    private static void example3() {
        EscapeRouter x = new EscapeRouter();
        Checks.type(x, "ss;s;");
        Checks.due("loadGrid()", x.loadGrid(), -14);
        Checks.due("clearText()", x.clearText(), 5);
        Checks.due("makePair(0,0,1,1)", x.makePair(0, 0, 1, 1), -1);
        Checks.due("makePair(0,0,0,1)", x.makePair(0, 0, 0, 1), 1);
        Checks.due("makePair(0,1,0,2)", x.makePair(0, 1, 0, 2), -2);
        Checks.due("deselect(0,0)", x.deselect(0, 0), -2);
    }

    private static void example4() {
        EscapeRouter x = new EscapeRouter();
        Checks.due("setTileCapacity(0)", x.setTileCapacity(0), 2);
        Checks.due("layerCount(0)", x.layerCount(0), -9);
        Checks.due("layerOf(0,0,0)", x.layerOf(0, 0, 0), -9);
        Checks.due("bestStrategy()", x.bestStrategy(), -9);
        Checks.due("lowerBound()", x.lowerBound(), -9);
        Checks.due("setKind(1,1,2)", x.setKind(1, 1, 2), 1);
        Checks.due("signalCount()", x.signalCount(), 8);
    }
}
