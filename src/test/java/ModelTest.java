import java.util.Random;

/** Promises 1 to 27: random runs of calls, each answer compared with that of the slow model. */
public final class ModelTest {
    private static final int RUNS = 120;
    private static final int CALLS = 512;
    private static final String[] GRID_PIECES = {"s", "p", ".", "ss", ";", " "};

    private final Random random;
    private final EscapeRouter router = new EscapeRouter();
    private final Model model = new Model();
    private final StringBuilder calls = new StringBuilder();
    private int done = 0;
    private int wrong = 0;

    private ModelTest(long seed) {
        random = new Random(seed);
    }

    public static void main(String[] args) {
        int runs = args.length > 0 ? Integer.parseInt(args[0]) : RUNS;
        long firstSeed = args.length > 1 ? Long.parseLong(args[1]) : 1;
        for (int run = 0; run < runs; run++) {
            ModelTest test = new ModelTest(firstSeed + run);
            while (test.done < CALLS && test.wrong == 0) {
                test.step();
            }
            Checks.due("run of seed " + (firstSeed + run), test.wrong, 0);
            if (test.wrong != 0) {
                System.out.println(test.calls);
            }
        }
        Checks.finish("ModelTest");
    }

    /** To be called once for each call of the router: it counts them. */
    private void compare(String call, int got, int want) {
        done++;
        calls.append(call).append(" = ").append(got).append('\n');
        if (got != want) {
            wrong++;
            calls.append("  due is ").append(want).append('\n');
        }
    }

    /** Mostly a row or column of the grid, now and then one beside it. */
    private int index(int size) {
        if (random.nextInt(40) == 0) {
            return random.nextBoolean() ? -1 : size;
        }
        return random.nextInt(size);
    }

    private int within(int low, int high) {
        return low + random.nextInt(high - low + 1);
    }

    private int strategy() {
        return random.nextInt(30) == 0 ? within(-1, 4) : random.nextInt(4);
    }

    /** One call, or a whole text with loadGrid behind it. */
    private void step() {
        int choice = random.nextInt(100);
        if (choice < 3) {
            load();
        } else if (choice < 55) {
            edit(choice);
        } else {
            ask(choice);
        }
    }

    /** The text is cut off where the calls come to their end, so that loadGrid is the last of them. */
    private void load() {
        String text = random.nextInt(3) == 0 ? wildText() : grid();
        int before = router.clearText();
        compare("clearText()", before, model.clearText());
        for (int i = 0; i < text.length() && done < CALLS - 1; i++) {
            int code = text.charAt(i);
            compare("appendCharacter(" + code + ")", router.appendCharacter(code), model.appendCharacter(code));
        }
        if (done < CALLS) {
            compare("loadGrid() of <" + text + ">", router.loadGrid(), model.loadGrid());
        }
    }

    private String wildText() {
        StringBuilder text = new StringBuilder();
        int pieces = random.nextInt(30);
        for (int i = 0; i < pieces; i++) {
            text.append(random.nextInt(40) == 0 ? "x" : GRID_PIECES[random.nextInt(GRID_PIECES.length)]);
        }
        return text.toString();
    }

    private String grid() {
        int rows = random.nextInt(4) == 0 ? 6 : within(1, 6);
        int columns = random.nextInt(4) == 0 ? 6 : within(1, 6);
        String kinds = random.nextBoolean() ? "sssssssp." : "ssppp.";
        StringBuilder text = new StringBuilder();
        for (int row = 0; row < rows; row++) {
            for (int column = 0; column < columns; column++) {
                text.append(kinds.charAt(random.nextInt(kinds.length())));
            }
            text.append(random.nextInt(100) == 0 ? "," : ";");
        }
        return text.toString();
    }

    private void edit(int choice) {
        int row = index(model.rows());
        int column = index(model.columns());
        String place = row + ", " + column;
        if (choice < 8) {
            int kind = within(-1, 3);
            compare("setKind(" + place + ", " + kind + ")", router.setKind(row, column, kind),
                    model.setKind(row, column, kind));
        } else if (choice < 11) {
            int capacity = random.nextInt(3) > 0 ? within(0, 1) : within(-1, 6);
            compare("setChannelCapacity(" + capacity + ")", router.setChannelCapacity(capacity),
                    model.setChannelCapacity(capacity));
        } else if (choice < 14) {
            int capacity = random.nextInt(3) > 0 ? within(1, 2) : within(-1, 10);
            compare("setTileCapacity(" + capacity + ")", router.setTileCapacity(capacity),
                    model.setTileCapacity(capacity));
        } else if (choice < 26) {
            int otherRow = row + (random.nextBoolean() ? 1 : random.nextInt(2) * -1);
            int otherColumn = otherRow != row && random.nextInt(8) > 0 ? column : column + within(-1, 1);
            compare("makePair(" + place + ", " + otherRow + ", " + otherColumn + ")",
                    router.makePair(row, column, otherRow, otherColumn),
                    model.makePair(row, column, otherRow, otherColumn));
        } else if (choice < 29) {
            compare("breakPair(" + place + ")", router.breakPair(row, column), model.breakPair(row, column));
        } else if (choice < 46) {
            compare("select(" + place + ")", router.select(row, column), model.select(row, column));
        } else if (choice < 49) {
            compare("deselect(" + place + ")", router.deselect(row, column), model.deselect(row, column));
        } else if (choice == 49 && random.nextInt(4) == 0) {
            compare("clearSelection()", router.clearSelection(), model.clearSelection());
        } else if (choice < 52) {
            compare("undo()", router.undo(), model.undo());
        } else {
            int code = random.nextInt(5) == 0 ? within(-1, 256) : "sp.; ".charAt(random.nextInt(5));
            compare("appendCharacter(" + code + ")", router.appendCharacter(code), model.appendCharacter(code));
        }
    }

    private void ask(int choice) {
        int row = index(model.rows());
        int column = index(model.columns());
        int strategy = strategy();
        String place = row + ", " + column;
        if (choice < 57) {
            compare("kindAt(" + place + ")", router.kindAt(row, column), model.kindAt(row, column));
        } else if (choice < 60) {
            compare("partnerOf(" + place + ")", router.partnerOf(row, column), model.partnerOf(row, column));
        } else if (choice < 62) {
            compare("rows()", router.rows(), model.rows());
        } else if (choice < 64) {
            compare("columns()", router.columns(), model.columns());
        } else if (choice < 65) {
            compare("signalCount()", router.signalCount(), model.signalCount());
        } else if (choice < 69) {
            compare("escapeCount()", router.escapeCount(), model.escapeCount());
        } else if (choice < 76) {
            int tileRow = index(model.rows() + 1);
            int tileColumn = index(model.columns() + 1);
            compare("tileSide(" + tileRow + ", " + tileColumn + ")", router.tileSide(tileRow, tileColumn),
                    model.tileSide(tileRow, tileColumn));
        } else if (choice < 80) {
            compare("cutChannels()", router.cutChannels(), model.cutChannels());
        } else if (choice < 83) {
            compare("layerCount(" + strategy + ")", router.layerCount(strategy), model.layerCount(strategy));
        } else if (choice < 89) {
            compare("layerOf(" + strategy + ", " + place + ")", router.layerOf(strategy, row, column),
                    model.layerOf(strategy, row, column));
        } else if (choice < 92) {
            int layer = within(0, 4);
            compare("layerLoad(" + strategy + ", " + layer + ")", router.layerLoad(strategy, layer),
                    model.layerLoad(strategy, layer));
        } else if (choice < 94) {
            compare("bestStrategy()", router.bestStrategy(), model.bestStrategy());
        } else if (choice < 97) {
            compare("throughput()", router.throughput(), model.throughput());
        } else {
            compare("lowerBound()", router.lowerBound(), model.lowerBound());
        }
    }
}
