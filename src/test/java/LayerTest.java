/** Promises 21 to 26: layers, throughput and lower bound. */
public final class LayerTest {
    public static void main(String[] args) {
        orderOfRowsAndColumns();
        orderOfRings();
        earlierLayersAreOpen();
        pairsStayTogether();
        failingLayering();
        wrongArguments();
        noSignal();
        promise24();
        promise25();
        promise26();
        answersFollowEdits();
        Checks.finish("LayerTest");
    }

    /** One wire fits through the only way out, so the order decides. */
    private static void orderOfRowsAndColumns() {
        EscapeRouter x = Checks.loaded(".ppp;p.sp;pspp;pppp;", 0, 1);
        int[] layerOfUpper = {1, 2, 1, 1};
        for (int strategy = 0; strategy < 4; strategy++) {
            Checks.due("layerCount", x.layerCount(strategy), 2);
            Checks.due("layerOf(1,2) of " + strategy, x.layerOf(strategy, 1, 2), layerOfUpper[strategy]);
            Checks.due("layerOf(2,1) of " + strategy, x.layerOf(strategy, 2, 1), 3 - layerOfUpper[strategy]);
            Checks.due("layerLoad 1", x.layerLoad(strategy, 1), 1);
            Checks.due("layerLoad 2", x.layerLoad(strategy, 2), 1);
            Checks.due("layerLoad 3", x.layerLoad(strategy, 3), 0);
        }
        Checks.due("bestStrategy", x.bestStrategy(), 0);
    }

    private static void orderOfRings() {
        EscapeRouter x = Checks.loaded("ppppp;ppppp;ppspp;pps.p;pppp.;", 0, 1);
        int[] layerOfMiddle = {1, 1, 2, 1};
        EscapeRouter y = Checks.loaded(".pppp;p.spp;ppspp;ppppp;ppppp;", 0, 1);
        int[] layerOfOtherMiddle = {2, 2, 2, 1};
        for (int strategy = 0; strategy < 4; strategy++) {
            Checks.due("middle of " + strategy, x.layerOf(strategy, 2, 2), layerOfMiddle[strategy]);
            Checks.due("below of " + strategy, x.layerOf(strategy, 3, 2), 3 - layerOfMiddle[strategy]);
            Checks.due("other middle of " + strategy, y.layerOf(strategy, 2, 2), layerOfOtherMiddle[strategy]);
            Checks.due("above of " + strategy, y.layerOf(strategy, 1, 2), 3 - layerOfOtherMiddle[strategy]);
        }
    }

    private static void earlierLayersAreOpen() {
        EscapeRouter x = Checks.loaded("spp;psp;ppp;", 0, 1);
        for (int strategy = 0; strategy < 4; strategy++) {
            Checks.due("corner of " + strategy, x.layerOf(strategy, 0, 0), 1);
            Checks.due("middle of " + strategy, x.layerOf(strategy, 1, 1), 2);
            Checks.due("layers of " + strategy, x.layerCount(strategy), 2);
        }
        Checks.due("POWER", x.layerOf(0, 0, 1), EscapeRouter.NONE);
    }

    private static void pairsStayTogether() {
        String text = "pp.pp;psssp;ppppp;ppppp;ppppp;";
        layersOfThree("without a pair", Checks.loaded(text, 0, 1), 1, 1, 2);
        EscapeRouter left = Checks.loaded(text, 0, 1);
        left.makePair(1, 2, 1, 1);
        layersOfThree("left pair", left, 1, 1, 2);
        EscapeRouter right = Checks.loaded(text, 0, 1);
        right.makePair(1, 3, 1, 2);
        layersOfThree("right pair", right, 1, 2, 2);
        Checks.due("layerLoad 1", right.layerLoad(0, 1), 1);
        Checks.due("layerLoad 2", right.layerLoad(0, 2), 2);
        right.breakPair(1, 2);
        layersOfThree("broken pair", right, 1, 1, 2);
        // The upper pin of the pair fits alone; its way must be free again for the pin behind it.
        EscapeRouter down = Checks.loaded("pp.pp;psssp;ppspp;ppppp;ppppp;", 0, 1);
        down.makePair(1, 2, 2, 2);
        layersOfThree("pair downwards", down, 1, 2, 1);
        Checks.due("lower pin of the pair", down.layerOf(0, 2, 2), 2);
        Checks.due("layerCount", down.layerCount(0), 2);
    }

    private static void layersOfThree(String what, EscapeRouter x, int left, int middle, int right) {
        Checks.due(what + ": left", x.layerOf(0, 1, 1), left);
        Checks.due(what + ": middle", x.layerOf(0, 1, 2), middle);
        Checks.due(what + ": right", x.layerOf(0, 1, 3), right);
    }

    private static void failingLayering() {
        EscapeRouter x = Checks.loaded("sppp;pppp;ppsp;pppp;", 0, 1);
        for (int strategy = 0; strategy < 4; strategy++) {
            Checks.due("layerCount", x.layerCount(strategy), EscapeRouter.NONE);
            Checks.due("layerOf(0,0)", x.layerOf(strategy, 0, 0), 1);
            Checks.due("layerOf(2,2)", x.layerOf(strategy, 2, 2), EscapeRouter.NONE);
            Checks.due("layerLoad 1", x.layerLoad(strategy, 1), 1);
            Checks.due("layerLoad 2", x.layerLoad(strategy, 2), 0);
        }
        Checks.due("bestStrategy", x.bestStrategy(), EscapeRouter.NONE);
        Checks.due("lowerBound", x.lowerBound(), 1);
    }

    private static void wrongArguments() {
        EscapeRouter x = new EscapeRouter();
        Checks.due("layerCount(-1)", x.layerCount(-1), EscapeRouter.INVALID_ARGUMENT);
        Checks.due("layerCount(4)", x.layerCount(4), EscapeRouter.INVALID_ARGUMENT);
        Checks.due("layerOf(-1,0,0)", x.layerOf(-1, 0, 0), EscapeRouter.INVALID_ARGUMENT);
        Checks.due("layerOf(4,0,0)", x.layerOf(4, 0, 0), EscapeRouter.INVALID_ARGUMENT);
        Checks.due("layerOf(0,3,0)", x.layerOf(0, 3, 0), EscapeRouter.INVALID_ARGUMENT);
        Checks.due("layerOf(0,0,-1)", x.layerOf(0, 0, -1), EscapeRouter.INVALID_ARGUMENT);
        Checks.due("layerLoad(-1,1)", x.layerLoad(-1, 1), EscapeRouter.INVALID_ARGUMENT);
        Checks.due("layerLoad(4,1)", x.layerLoad(4, 1), EscapeRouter.INVALID_ARGUMENT);
        Checks.due("layerLoad(0,0)", x.layerLoad(0, 0), EscapeRouter.INVALID_ARGUMENT);
        Checks.due("layerLoad(0,-1)", x.layerLoad(0, -1), EscapeRouter.INVALID_ARGUMENT);
        Checks.due("layerLoad(0,36)", x.layerLoad(0, 36), 0);
        Checks.due("layerLoad(0,MAX)", x.layerLoad(0, Integer.MAX_VALUE), 0);
    }

    private static void noSignal() {
        EscapeRouter x = Checks.loaded("p.;.p;", 0, 0);
        Checks.due("layerCount", x.layerCount(2), 0);
        Checks.due("layerOf", x.layerOf(2, 0, 0), EscapeRouter.NONE);
        Checks.due("layerLoad", x.layerLoad(2, 1), 0);
        Checks.due("bestStrategy", x.bestStrategy(), 0);
        Checks.due("throughput", x.throughput(), 0);
        Checks.due("lowerBound", x.lowerBound(), 0);
    }

    private static void promise24() {
        EscapeRouter x = new EscapeRouter();
        Checks.due("all have one layer", x.bestStrategy(), 0);
        x.setTileCapacity(0);
        Checks.due("all fail", x.bestStrategy(), EscapeRouter.NONE);
        counts("pppppp;spspss;psps.s;pppss.;", 1, new int[] {3, 2, 3, 3}, 1);
        counts("sps.ss;ps.pss;pps.sp;pssp.s;pppsps;", 2, new int[] {3, 2, 3, 2}, 1);
        counts("ppsssp;pp.pss;sspppp;pssppp;ps.ssp;pppppp;", 1, new int[] {5, 5, 4, 5}, 2);
        counts("ssppss;pssspp;ssssps;s.ssss;.sssss;", 1, new int[] {3, 3, 3, 2}, 3);
    }

    /** Found by search; the counts are those of the slow model too. */
    private static void counts(String text, int tileCapacity, int[] counts, int best) {
        EscapeRouter x = Checks.loaded(text, 0, tileCapacity);
        Model model = new Model();
        for (int i = 0; i < text.length(); i++) {
            model.appendCharacter(text.charAt(i));
        }
        model.loadGrid();
        model.setChannelCapacity(0);
        model.setTileCapacity(tileCapacity);
        for (int strategy = 0; strategy < 4; strategy++) {
            Checks.due("layerCount of " + text, x.layerCount(strategy), counts[strategy]);
            Checks.due("the model's", model.layerCount(strategy), counts[strategy]);
        }
        Checks.due("bestStrategy of " + text, x.bestStrategy(), best);
    }

    private static void promise25() {
        Checks.due("a pin has any number of wires", Checks.loaded("s;", 0, 9).throughput(), 36);
        Checks.due("POWER is closed", Checks.loaded("ppp;psp;ppp;", 0, 9).throughput(), 0);
        Checks.due("channels limit", Checks.loaded("ppp;psp;ppp;", 1, 9).throughput(), 8);
        Checks.due("tiles limit", Checks.loaded("ppp;psp;ppp;", 1, 1).throughput(), 4);
        Checks.due("no room", Checks.loaded("ss;ss;", 5, 0).throughput(), 0);
        Checks.due("NONE_THERE is open, SIGNAL too", Checks.loaded("spp;psp;ppp;", 0, 1).throughput(), 3);
        EscapeRouter x = Checks.loaded("p.pp;pssp;pssp;pppp;", 0, 1);
        Checks.due("NONE_THERE is open", x.throughput(), 2);
        String six = "ssssss;ssssss;ssssss;ssssss;ssssss;ssssss;";
        Checks.due("the whole rim", Checks.loaded(six, 5, 9).throughput(), 216);
    }

    private static void promise26() {
        Checks.due("no pin", Checks.loaded("p;", 1, 1).lowerBound(), 0);
        Checks.due("no throughput", Checks.loaded("ppp;psp;ppp;", 0, 9).lowerBound(), EscapeRouter.NONE);
        String six = "ssssss;ssssss;ssssss;ssssss;ssssss;ssssss;";
        Checks.due("36 by 24", Checks.loaded(six, 0, 1).lowerBound(), 2);
        EscapeRouter x = Checks.loaded("p.pp;pssp;pssp;pppp;", 0, 1);
        Checks.due("4 by 2", x.lowerBound(), 2);
        x.setKind(2, 2, 2);
        Checks.due("3 by 2", x.lowerBound(), 2);
        x.setKind(2, 1, 2);
        Checks.due("2 by 2", x.lowerBound(), 1);
    }

    private static void answersFollowEdits() {
        EscapeRouter x = new EscapeRouter();
        Checks.due("one layer", x.layerCount(0), 1);
        Checks.due("throughput", x.throughput(), 24);
        x.setChannelCapacity(0);
        Checks.due("two layers", x.layerCount(0), 2);
        x.setKind(0, 0, 0);
        Checks.due("one layer again", x.layerCount(0), 1);
        x.setTileCapacity(1);
        Checks.due("throughput", x.throughput(), 12 - 1);
        x.undo();
        x.undo();
        Checks.due("two layers after undo", x.layerCount(0), 2);
        Checks.due("throughput after undo", x.throughput(), 24);
    }
}
