/** The boundary cases of "Layers" and the promises 21 to 26, a test for each sentence. */
public final class LayerEdgesTest {
    public static void main(String[] args) {
        strategyArguments();
        layerOfArguments();
        layerArguments();
        notSignal();
        noSuchLayer();
        noPins();
        noPinsAnyMore();
        onePin();
        onlyEarlierLayersAreOpen();
        placeOfTheFirstOfAPair();
        pairThatNeverFits();
        halfOfAPair();
        failsAtOnce();
        failsLater();
        ringsOfEverySize();
        orderOfEveryTwoPins();
        fewestLayersSmallestNumber();
        throughput();
        lowerBound();
        Checks.finish("LayerEdgesTest");
    }

    /** "strategy: 0 to 3"; layerCount: "INVALID_ARGUMENT if the argument is out of range" */
    private static void strategyArguments() {
        EscapeRouter x = new EscapeRouter();
        for (int strategy : Edges.outside(4)) {
            Edges.refusedArgument("layerCount of " + strategy, x.layerCount(strategy));
            Edges.refusedArgument("layerOf of " + strategy, x.layerOf(strategy, 0, 0));
            Edges.refusedArgument("layerLoad of " + strategy, x.layerLoad(strategy, 1));
        }
        for (int strategy = 0; strategy < 4; strategy++) {
            Checks.due("layerCount of " + strategy, x.layerCount(strategy), 1);
        }
        x.setTileCapacity(0);
        Edges.refusedArgument("rather than NONE", x.layerCount(4));
        Edges.refusedArgument("rather than NONE", x.layerOf(-1, 0, 0));
        Edges.refusedArgument("rather than 0", x.layerLoad(4, 1));
    }

    /** layerOf: "an existing row", "an existing column" */
    private static void layerOfArguments() {
        EscapeRouter x = Checks.loaded("ss;ss;ss;");
        for (int row : Edges.outside(3)) {
            Edges.refusedArgument("layerOf of row " + row, x.layerOf(0, row, 0));
        }
        for (int column : Edges.outside(2)) {
            Edges.refusedArgument("layerOf of column " + column, x.layerOf(3, 0, column));
            Edges.refusedArgument("layerOf of column " + column, x.layerOf(3, 1, column));
        }
        Checks.due("the last position", x.layerOf(3, 2, 1), 1);
    }

    /** layerLoad: "the number of a layer, 1 or greater"; "INVALID_ARGUMENT if an argument is out of range" */
    private static void layerArguments() {
        EscapeRouter x = new EscapeRouter();
        int[] tooSmall = {0, -1, -2, Integer.MIN_VALUE, Integer.MIN_VALUE + 1};
        for (int layer : tooSmall) {
            Edges.refusedArgument("layerLoad of layer " + layer, x.layerLoad(0, layer));
        }
        EscapeRouter none = Checks.loaded("p.;");
        Edges.refusedArgument("layer 0 where no pin is", none.layerLoad(0, 0));
        x.setTileCapacity(0);
        Edges.refusedArgument("layer 0 of a layering that fails", x.layerLoad(0, 0));
    }

    /** layerOf: "NONE if the position is not SIGNAL" */
    private static void notSignal() {
        EscapeRouter x = Checks.loaded("sp.;");
        for (int strategy = 0; strategy < 4; strategy++) {
            Edges.same("layers", Edges.layers(x, strategy), "1--/");
            Checks.due("layerLoad", x.layerLoad(strategy, 1), 1);
        }
        x.setKind(0, 0, 2);
        Checks.due("not any more", x.layerOf(0, 0, 0), EscapeRouter.NONE);
        x.setKind(0, 1, 1);
        Checks.due("now", x.layerOf(0, 0, 1), 1);
    }

    /** layerLoad: "0 if there is no such layer" */
    private static void noSuchLayer() {
        EscapeRouter x = Checks.loaded(Edges.FULL_GRID, 0, 1);
        int[] beyond = {36, 37, 49, 50, 1000, Integer.MAX_VALUE - 1, Integer.MAX_VALUE};
        for (int strategy = 0; strategy < 4; strategy++) {
            int count = x.layerCount(strategy);
            int sum = 0;
            for (int layer = 1; layer <= count; layer++) {
                Checks.holds("there is a pin on each layer", x.layerLoad(strategy, layer) > 0);
                sum += x.layerLoad(strategy, layer);
            }
            Checks.due("all pins", sum, 36);
            Checks.due("one behind the last", x.layerLoad(strategy, count + 1), 0);
            for (int layer : beyond) {
                Checks.due("layerLoad of " + layer, x.layerLoad(strategy, layer), 0);
            }
        }
    }

    /** "The layering ends when all SIGNAL pins are on layers.": without pins it has none */
    private static void noPins() {
        String[] texts = {"p;", ".;", Edges.gridOf('p', 6, 6), Edges.gridOf('.', 6, 6)};
        for (String text : texts) {
            EscapeRouter x = Checks.loaded(text);
            for (int tileCapacity = 0; tileCapacity < 2; tileCapacity++) {
                x.setTileCapacity(tileCapacity);
                for (int strategy = 0; strategy < 4; strategy++) {
                    Checks.due("layerCount", x.layerCount(strategy), 0);
                    Checks.due("layerLoad", x.layerLoad(strategy, 1), 0);
                }
                Checks.due("bestStrategy", x.bestStrategy(), 0);
                Checks.due("throughput", x.throughput(), 0);
                Checks.due("lowerBound", x.lowerBound(), 0);
            }
        }
    }

    /** The same after other answers: the layers of pins that are gone do not count. */
    private static void noPinsAnyMore() {
        EscapeRouter x = Checks.loaded("ppp;psp;spp;", 0, 1);
        for (int strategy = 0; strategy < 4; strategy++) {
            Checks.due("layerCount", x.layerCount(strategy), 2);
        }
        x.setKind(2, 0, 2);
        Checks.due("the corner does not open any more", x.layerCount(0), EscapeRouter.NONE);
        x.setKind(1, 1, 0);
        for (int strategy = 0; strategy < 4; strategy++) {
            Checks.due("layerCount", x.layerCount(strategy), 0);
            Checks.due("layerLoad 1", x.layerLoad(strategy, 1), 0);
            Checks.due("layerLoad 2", x.layerLoad(strategy, 2), 0);
        }
        Checks.due("bestStrategy", x.bestStrategy(), 0);
    }

    /** The least grid with the least capacities that let its pin out. */
    private static void onePin() {
        EscapeRouter x = Checks.loaded("s;", 0, 1);
        for (int strategy = 0; strategy < 4; strategy++) {
            Checks.due("layerCount", x.layerCount(strategy), 1);
            Checks.due("layerOf", x.layerOf(strategy, 0, 0), 1);
            Checks.due("layerLoad", x.layerLoad(strategy, 1), 1);
        }
        Checks.due("throughput", x.throughput(), 4);
        Checks.due("lowerBound", x.lowerBound(), 1);
    }

    /** "the open positions are those of the kind NONE_THERE and those of the pins ... on earlier layers" */
    private static void onlyEarlierLayersAreOpen() {
        // The three rings of the full grid: each one opens the way for the next.
        EscapeRouter x = Checks.loaded(Edges.FULL_GRID, 0, 9);
        Edges.same("rings", Edges.layers(x, 2), "111111/122221/123321/123321/122221/111111/");
        Checks.due("layerCount", x.layerCount(2), 3);
        EscapeRouter open = Checks.loaded(Edges.gridOf('s', 5, 5).replaceFirst("s", "."), 0, 1);
        Checks.due("beside NONE_THERE", open.layerOf(0, 1, 1), 1);
        Checks.due("beside pins of the same layer", open.layerOf(0, 1, 2), 2);
        EscapeRouter power = Checks.loaded("ppp;psp;ppp;", 0, 9);
        Checks.due("POWER never opens", power.layerCount(0), EscapeRouter.NONE);
    }

    /** "Each pin is considered together with its partner ..., at the place of the one that comes first" */
    private static void placeOfTheFirstOfAPair() {
        // Two wires fit out at the top. B, at (1, 3), comes between A, at (1, 2), and its partner at (2, 2).
        String top = "pp.pp;p.ssp;ppspp;ppppp;ppppp;";
        EscapeRouter x = Checks.loaded(top, 0, 1);
        x.makePair(2, 2, 1, 2);
        Edges.same("rows", Edges.layers(x, 0), "-----/--12-/--1--/-----/-----/");
        Edges.same("outside in", Edges.layers(x, 2), "-----/--12-/--1--/-----/-----/");
        Edges.same("inside out", Edges.layers(x, 3), "-----/--12-/--1--/-----/-----/");
        x.breakPair(2, 2);
        Edges.same("rows without the pair", Edges.layers(x, 0), "-----/--11-/--2--/-----/-----/");
        String left = "ppppp;p.ppp;.sspp;psppp;ppppp;";
        EscapeRouter y = Checks.loaded(left, 0, 1);
        y.makePair(2, 2, 2, 1);
        Edges.same("columns", Edges.layers(y, 1), "-----/-----/-11--/-2---/-----/");
        // Here B, at (1, 1), comes between the pins of the pair from the inside out alone.
        EscapeRouter z = Checks.loaded("ppppp;psppp;.sspp;p.ppp;ppppp;", 0, 1);
        z.makePair(2, 1, 2, 2);
        Edges.same("rows", Edges.layers(z, 0), "-----/-1---/-22--/-----/-----/");
        Edges.same("columns", Edges.layers(z, 1), "-----/-1---/-22--/-----/-----/");
        Edges.same("outside in", Edges.layers(z, 2), "-----/-1---/-22--/-----/-----/");
        Edges.same("inside out", Edges.layers(z, 3), "-----/-2---/-11--/-----/-----/");
    }

    /** "A pin (or pair) is put on the layer if it can escape together with all pins ... on this layer" */
    private static void pairThatNeverFits() {
        EscapeRouter x = Checks.loaded(".ppp;p.sp;ppsp;pppp;", 0, 1);
        Checks.due("one wire on each layer", x.layerCount(0), 2);
        x.makePair(1, 2, 2, 2);
        for (int strategy = 0; strategy < 4; strategy++) {
            Checks.due("two wires fit on no layer", x.layerCount(strategy), EscapeRouter.NONE);
            Checks.due("the half that fits is on none", x.layerOf(strategy, 1, 2), EscapeRouter.NONE);
            Checks.due("the other half", x.layerOf(strategy, 2, 2), EscapeRouter.NONE);
            Checks.due("layerLoad", x.layerLoad(strategy, 1), 0);
        }
        Checks.due("bestStrategy", x.bestStrategy(), EscapeRouter.NONE);
        x.setTileCapacity(2);
        Checks.due("with room for two", x.layerCount(0), 1);
        Checks.due("both", x.layerLoad(0, 1), 2);
    }

    /** The same where one pin of the pair has more than one way and the other has none. */
    private static void halfOfAPair() {
        EscapeRouter x = Checks.loaded("psp;pss;ppp;", 0, 1);
        Edges.same("without a pair", Edges.layers(x, 0), "-1-/-21/---/");
        x.makePair(1, 1, 1, 2);
        Edges.same("the second pin has ways", Edges.layers(x, 0), "-1-/-22/---/");
        x.setKind(0, 1, 2);
        for (int strategy = 0; strategy < 4; strategy++) {
            Edges.same("fails", Edges.layers(x, strategy), "---/---/---/");
        }
        EscapeRouter y = Checks.loaded("psp;psp;ppp;", 0, 1);
        Edges.same("without a pair", Edges.layers(y, 0), "-1-/-2-/---/");
        y.makePair(0, 1, 1, 1);
        for (int strategy = 0; strategy < 4; strategy++) {
            Edges.same("the first pin has ways", Edges.layers(y, strategy), "---/---/---/");
        }
        // The half of the pair that fits leaves its way to the pin that is considered behind the pair.
        EscapeRouter z = Checks.loaded(".ppppp;p..spp;p..spp;p...sp;pppppp;pppppp;", 0, 1);
        Edges.same("without a pair", Edges.layers(z, 0), "------/---1--/---2--/----3-/------/------/");
        z.makePair(1, 3, 2, 3);
        Edges.same("the way is free", Edges.layers(z, 0), "------/------/------/----1-/------/------/");
    }

    /** "It fails if nothing is put on some layer although there are pins left.", on the first layer */
    private static void failsAtOnce() {
        EscapeRouter x = Checks.loaded(Edges.FULL_GRID, 5, 0);
        for (int strategy = 0; strategy < 4; strategy++) {
            Checks.due("layerCount", x.layerCount(strategy), EscapeRouter.NONE);
            Checks.due("layerOf the first", x.layerOf(strategy, 0, 0), EscapeRouter.NONE);
            Checks.due("layerOf the last", x.layerOf(strategy, 5, 5), EscapeRouter.NONE);
            Checks.due("layerLoad", x.layerLoad(strategy, 1), 0);
        }
        Checks.due("bestStrategy", x.bestStrategy(), EscapeRouter.NONE);
    }

    /** layerOf: "NONE ... if the layering fails and the pin is on no layer": the others have their layers */
    private static void failsLater() {
        EscapeRouter x = Checks.loaded("spppp;pspps;ppppp;ppspp;ppppp;", 0, 1);
        for (int strategy = 0; strategy < 4; strategy++) {
            Checks.due("layerCount", x.layerCount(strategy), EscapeRouter.NONE);
            Edges.same("layers", Edges.layers(x, strategy), "1----/-2--1/-----/-----/-----/");
            Checks.due("layerLoad 1", x.layerLoad(strategy, 1), 2);
            Checks.due("layerLoad 2", x.layerLoad(strategy, 2), 1);
            Checks.due("layerLoad 3", x.layerLoad(strategy, 3), 0);
        }
        Checks.due("bestStrategy", x.bestStrategy(), EscapeRouter.NONE);
        Checks.due("POWER", x.layerOf(0, 0, 1), EscapeRouter.NONE);
    }

    /** "The ring of a position is the least of r, R - 1 - r, c and C - 1 - c.": every pin is in some ring */
    private static void ringsOfEverySize() {
        for (int rows = 1; rows <= 6; rows++) {
            for (int columns = 1; columns <= 6; columns++) {
                EscapeRouter x = Checks.loaded(Edges.gridOf('s', rows, columns), 0, 9);
                for (int place = 0; place < rows * columns; place++) {
                    int layer = ring(place, rows, columns) + 1;
                    for (int strategy = 2; strategy < 4; strategy++) {
                        Checks.due("layerOf", x.layerOf(strategy, place / columns, place % columns), layer);
                    }
                }
            }
        }
    }

    /**
     * "by row, then by column", "by column, then by row", "by ring, then by row, then by column", "by ring
     * in descending order, then by row, then by column": one wire fits out at the corner, and so of every
     * two pins inside the one that comes first is on layer 1.
     */
    private static void orderOfEveryTwoPins() {
        for (int rows = 3; rows <= 6; rows++) {
            for (int columns = 3; columns <= 6; columns++) {
                for (int one = 0; one < rows * columns; one++) {
                    for (int other = one + 1; other < rows * columns; other++) {
                        if (isInside(one, rows, columns) && isInside(other, rows, columns)) {
                            orderOfTwoPins(one, other, rows, columns);
                        }
                    }
                }
            }
        }
    }

    /** Whether the place is neither at the rim nor the one that the wires of all others pass. */
    private static boolean isInside(int place, int rows, int columns) {
        return ring(place, rows, columns) > 0 && place != columns + 1;
    }

    private static int ring(int place, int rows, int columns) {
        int r = place / columns;
        int c = place % columns;
        return Math.min(Math.min(r, rows - 1 - r), Math.min(c, columns - 1 - c));
    }

    private static void orderOfTwoPins(int one, int other, int rows, int columns) {
        StringBuilder text = new StringBuilder();
        for (int place = 0; place < rows * columns; place++) {
            boolean pin = place == one || place == other;
            boolean open = place == 0 || ring(place, rows, columns) > 0;
            text.append(pin ? 's' : open ? '.' : 'p');
            if (place % columns == columns - 1) {
                text.append(';');
            }
        }
        EscapeRouter x = Checks.loaded(text.toString(), 0, 1);
        int deeper = ring(one, rows, columns) - ring(other, rows, columns);
        boolean[] oneFirst = {true, one % columns <= other % columns, deeper <= 0, deeper >= 0};
        for (int strategy = 0; strategy < 4; strategy++) {
            int layer = oneFirst[strategy] ? 1 : 2;
            String what = " of " + text + " by " + strategy;
            Checks.due("upper" + what, x.layerOf(strategy, one / columns, one % columns), layer);
            Checks.due("lower" + what, x.layerOf(strategy, other / columns, other % columns), 3 - layer);
        }
    }

    /** bestStrategy: "the fewest layers, the smallest number among several; NONE if all layerings fail" */
    private static void fewestLayersSmallestNumber() {
        Checks.due("all alike", Checks.loaded("ss;", 0, 1).bestStrategy(), 0);
        Checks.due("all without layers", Checks.loaded("p;", 0, 1).bestStrategy(), 0);
        Checks.due("all fail", Checks.loaded("s;", 0, 0).bestStrategy(), EscapeRouter.NONE);
        EscapeRouter x = Checks.loaded("ssppss;pssspp;ssssps;s.ssss;.sssss;", 0, 1);
        Checks.due("the last one alone", x.bestStrategy(), 3);
        EscapeRouter y = Checks.loaded("sps.ss;ps.pss;pps.sp;pssp.s;pppsps;", 0, 2);
        Checks.due("layerCount of 1", y.layerCount(1), y.layerCount(3));
        Checks.due("the smaller one of two", y.bestStrategy(), 1);
    }

    /** "The throughput is the greatest number of wires ... if every SIGNAL pin may have any number" */
    private static void throughput() {
        Checks.due("no room in tiles", Checks.loaded(Edges.FULL_GRID, 5, 0).throughput(), 0);
        Checks.due("no way through channels", Checks.loaded("ppp;psp;ppp;", 0, 9).throughput(), 0);
        Checks.due("the most", Checks.loaded(Edges.FULL_GRID, 5, 9).throughput(), 216);
        Checks.due("the least that is not 0", Checks.loaded("ppp;psp;ppp;", 1, 9).throughput(), 8);
        Checks.due("the selection has no influence", selected().throughput(), 36);
    }

    private static EscapeRouter selected() {
        EscapeRouter x = Checks.loaded("s;", 0, 9);
        x.select(0, 0);
        return x;
    }

    /** lowerBound: "0 if there is no SIGNAL pin; NONE if there are SIGNAL pins and the throughput is 0" */
    private static void lowerBound() {
        Checks.due("no pin, throughput 0", Checks.loaded("p;", 0, 0).lowerBound(), 0);
        Checks.due("pins, throughput 0", Checks.loaded("s;", 0, 0).lowerBound(), EscapeRouter.NONE);
        Checks.due("throughput 0 by channels", Checks.loaded("ppp;psp;ppp;", 0, 9).lowerBound(), EscapeRouter.NONE);
        EscapeRouter one = Checks.loaded(".ppppp;p...pp;p..spp;p.sspp;pppppp;pppppp;", 0, 1);
        Checks.due("the least throughput", one.throughput(), 1);
        Checks.due("3 by 1", one.lowerBound(), 3);
        Checks.due("36 by 216", Checks.loaded(Edges.FULL_GRID, 5, 9).lowerBound(), 1);
        // Inside, behind two channels: the quotient is rounded up, and only if it is not whole.
        EscapeRouter x = Checks.loaded("pp.ppp;pssssp;psssss;pppppp;", 0, 9);
        x.setKind(2, 5, 2);
        int wires = x.throughput();
        for (int pins = 8; pins > 0; pins--) {
            int rounded = 0;
            while (rounded * x.throughput() < x.signalCount()) {
                rounded++;
            }
            Checks.due("signalCount", x.signalCount(), pins);
            Checks.due(pins + " by " + x.throughput(), x.lowerBound(), rounded);
            int last = pins - 1;
            x.setKind(1 + last / 4, 1 + last % 4, 2);
        }
        Checks.due("throughput", wires, 2);
        Checks.due("no pin is left", x.lowerBound(), 0);
    }
}
