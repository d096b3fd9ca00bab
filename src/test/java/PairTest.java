/** Promises 12 to 14: pairs. */
public final class PairTest {
    public static void main(String[] args) {
        promise12();
        promise13();
        promise14();
        Checks.finish("PairTest");
    }

    private static void promise12() {
        EscapeRouter x = new EscapeRouter();
        Checks.due("first row too great", x.makePair(3, 0, 2, 0), EscapeRouter.INVALID_ARGUMENT);
        Checks.due("first column negative", x.makePair(0, -1, 0, 0), EscapeRouter.INVALID_ARGUMENT);
        Checks.due("second row negative", x.makePair(0, 0, -1, 0), EscapeRouter.INVALID_ARGUMENT);
        Checks.due("second column too great", x.makePair(0, 2, 0, 3), EscapeRouter.INVALID_ARGUMENT);
        Checks.due("the same", x.makePair(1, 1, 1, 1), EscapeRouter.INVALID_ARGUMENT);
        Checks.due("a diagonal", x.makePair(0, 1, 1, 0), EscapeRouter.INVALID_ARGUMENT);
        Checks.due("two apart", x.makePair(0, 0, 2, 0), EscapeRouter.INVALID_ARGUMENT);
        Checks.due("end of a row and begin of the next", x.makePair(0, 2, 1, 0), EscapeRouter.INVALID_ARGUMENT);
        x.setKind(2, 2, 2);
        Checks.due("POWER", x.makePair(2, 2, 2, 1), EscapeRouter.INVALID_STATE);
        Checks.due("POWER as the other", x.makePair(1, 2, 2, 2), EscapeRouter.INVALID_STATE);
        Checks.due("POWER, and no neighbour", x.makePair(0, 0, 2, 2), EscapeRouter.INVALID_ARGUMENT);
        Checks.due("in a row", x.makePair(0, 1, 0, 0), 1);
        Checks.due("in a column", x.makePair(1, 1, 2, 1), 2);
        Checks.due("again", x.makePair(0, 0, 0, 1), EscapeRouter.INVALID_STATE);
        Checks.due("one is in a pair", x.makePair(0, 1, 0, 2), EscapeRouter.INVALID_STATE);
        Checks.due("the other is in a pair", x.makePair(1, 0, 1, 1), EscapeRouter.INVALID_STATE);
        Checks.due("a pair, and no neighbour", x.makePair(0, 1, 2, 1), EscapeRouter.INVALID_ARGUMENT);
    }

    private static void promise13() {
        EscapeRouter x = new EscapeRouter();
        x.makePair(0, 0, 0, 1);
        x.makePair(1, 0, 1, 1);
        x.makePair(2, 0, 2, 1);
        Checks.due("no position", x.breakPair(0, 3), EscapeRouter.INVALID_ARGUMENT);
        Checks.due("no position", x.breakPair(-1, 0), EscapeRouter.INVALID_ARGUMENT);
        Checks.due("no pair", x.breakPair(0, 2), EscapeRouter.INVALID_STATE);
        Checks.due("by the first", x.breakPair(0, 0), 2);
        Checks.due("by the second", x.breakPair(1, 1), 1);
        Checks.due("broken already", x.breakPair(0, 1), EscapeRouter.INVALID_STATE);
        Checks.due("broken already", x.breakPair(1, 0), EscapeRouter.INVALID_STATE);
        Checks.due("the pins are free again", x.makePair(0, 1, 0, 2), 2);
    }

    private static void promise14() {
        EscapeRouter x = Checks.loaded("ssssss;ssssss;ssssss;ssssss;ssssss;ssssss;");
        x.makePair(5, 5, 4, 5);
        x.makePair(0, 0, 0, 1);
        Checks.due("partnerOf(5,5)", x.partnerOf(5, 5), 45);
        Checks.due("partnerOf(4,5)", x.partnerOf(4, 5), 55);
        Checks.due("partnerOf(0,0)", x.partnerOf(0, 0), 1);
        Checks.due("partnerOf(0,1)", x.partnerOf(0, 1), 0);
        Checks.due("partnerOf(1,1)", x.partnerOf(1, 1), EscapeRouter.NONE);
        Checks.due("partnerOf(6,0)", x.partnerOf(6, 0), EscapeRouter.INVALID_ARGUMENT);
        Checks.due("partnerOf(0,-1)", x.partnerOf(0, -1), EscapeRouter.INVALID_ARGUMENT);
    }
}
