/** Promises 15 to 20: the selection and its bottleneck. */
public final class SelectionTest {
    public static void main(String[] args) {
        promise15();
        promise16();
        promise17();
        promise18();
        promise19();
        promise20();
        Checks.finish("SelectionTest");
    }

    private static void promise15() {
        EscapeRouter x = Checks.loaded("sp;s.;");
        Checks.due("select(2,0)", x.select(2, 0), EscapeRouter.INVALID_ARGUMENT);
        Checks.due("select(0,2)", x.select(0, 2), EscapeRouter.INVALID_ARGUMENT);
        Checks.due("select(-1,0)", x.select(-1, 0), EscapeRouter.INVALID_ARGUMENT);
        Checks.due("POWER", x.select(0, 1), EscapeRouter.INVALID_STATE);
        Checks.due("NONE_THERE", x.select(1, 1), EscapeRouter.INVALID_STATE);
        Checks.due("select(1,0)", x.select(1, 0), 1);
        Checks.due("select(1,0) again", x.select(1, 0), EscapeRouter.INVALID_STATE);
        Checks.due("select(0,0)", x.select(0, 0), 2);
    }

    private static void promise16() {
        EscapeRouter x = new EscapeRouter();
        x.select(0, 0);
        x.select(2, 2);
        Checks.due("deselect(3,0)", x.deselect(3, 0), EscapeRouter.INVALID_ARGUMENT);
        Checks.due("deselect(0,-1)", x.deselect(0, -1), EscapeRouter.INVALID_ARGUMENT);
        Checks.due("deselect(1,1)", x.deselect(1, 1), EscapeRouter.INVALID_STATE);
        Checks.due("deselect(0,0)", x.deselect(0, 0), 1);
        Checks.due("deselect(0,0) again", x.deselect(0, 0), EscapeRouter.INVALID_STATE);
        Checks.due("deselect(2,2)", x.deselect(2, 2), 0);
    }

    private static void promise17() {
        EscapeRouter x = new EscapeRouter();
        Checks.due("empty", x.clearSelection(), EscapeRouter.INVALID_STATE);
        x.select(0, 0);
        x.select(1, 0);
        x.select(2, 0);
        Checks.due("three", x.clearSelection(), 3);
        Checks.due("empty again", x.clearSelection(), EscapeRouter.INVALID_STATE);
        Checks.due("escapeCount", x.escapeCount(), 0);
        Checks.due("select", x.select(1, 0), 1);
    }

    private static void promise18() {
        EscapeRouter x = Checks.loaded("ppp;psp;ppp;", 0, 1);
        Checks.due("nothing selected", x.escapeCount(), 0);
        x.select(1, 1);
        Checks.due("closed in", x.escapeCount(), 0);
        x.setKind(0, 0, 0);
        Checks.due("an open position makes a way", x.escapeCount(), 1);
        x.setTileCapacity(0);
        Checks.due("no room in tiles", x.escapeCount(), 0);
        x.undo();
        Checks.due("room again", x.escapeCount(), 1);
        EscapeRouter wide = Checks.loaded("ppp;psp;ppp;", 0, 1);
        wide.select(1, 1);
        wide.setChannelCapacity(1);
        Checks.due("a channel makes a way", wide.escapeCount(), 1);
        // Pairs have no influence: one of the two pins escapes without the other.
        EscapeRouter pair = Checks.loaded(".pppp;p.spp;pspps;ppsss;ppsss;", 0, 1);
        pair.select(1, 2);
        pair.select(2, 1);
        Checks.due("one of two", pair.escapeCount(), 1);
        EscapeRouter neighbours = new EscapeRouter();
        neighbours.setChannelCapacity(0);
        neighbours.makePair(1, 1, 1, 2);
        neighbours.select(1, 1);
        neighbours.select(1, 2);
        Checks.due("half of a pair", neighbours.escapeCount(), 1);
    }

    private static void promise19() {
        EscapeRouter x = Checks.loaded("sss;sss;");
        Checks.due("tileSide(-1,0)", x.tileSide(-1, 0), EscapeRouter.INVALID_ARGUMENT);
        Checks.due("tileSide(3,0)", x.tileSide(3, 0), EscapeRouter.INVALID_ARGUMENT);
        Checks.due("tileSide(0,4)", x.tileSide(0, 4), EscapeRouter.INVALID_ARGUMENT);
        Checks.due("tileSide(0,-1)", x.tileSide(0, -1), EscapeRouter.INVALID_ARGUMENT);
        Checks.due("tileSide(2,3)", x.tileSide(2, 3), 2);
        EscapeRouter inner = new EscapeRouter();
        inner.setChannelCapacity(0);
        inner.select(1, 1);
        Checks.due("near", inner.tileSide(1, 1), 0);
        Checks.due("near", inner.tileSide(2, 2), 0);
        Checks.due("far", inner.tileSide(0, 1), 2);
        inner.setTileCapacity(0);
        Checks.due("cut", inner.tileSide(1, 1), 1);
        Checks.due("cut", inner.tileSide(2, 1), 1);
        Checks.due("far", inner.tileSide(3, 3), 2);
        inner.setTileCapacity(2);
        inner.setChannelCapacity(1);
        Checks.due("all escape", inner.tileSide(1, 1), 2);
    }

    private static void promise20() {
        EscapeRouter x = new EscapeRouter();
        Checks.due("nothing selected", x.cutChannels(), 0);
        x.setChannelCapacity(0);
        Checks.due("nothing selected", x.cutChannels(), 0);
        x.select(1, 1);
        Checks.due("around four tiles", x.cutChannels(), 8);
        x.setTileCapacity(0);
        Checks.due("the tiles are cut", x.cutChannels(), 0);
        x.undo();
        Checks.due("after undo", x.cutChannels(), 8);
        x.setKind(0, 0, 0);
        Checks.due("it escapes", x.cutChannels(), 0);
        EscapeRouter five = Checks.loaded("sssss;sssss;sssss;sssss;sssss;", 0, 1);
        five.select(2, 2);
        Checks.due("around the middle", five.cutChannels(), 8);
        five.select(1, 1);
        Checks.due("around seven tiles", five.cutChannels(), 12);
        // The sixteen tiles of the inside have four channels to the rim on each side.
        five.select(1, 3);
        five.select(3, 1);
        five.select(3, 3);
        Checks.due("around all inner tiles", five.cutChannels(), 16);
    }
}
