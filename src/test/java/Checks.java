/** Counts the checks of one test class, tells the wrong ones, and ends the run with exit code 1 if there was one. */
final class Checks {
    private static int passed = 0;
    private static int failed = 0;

    private Checks() {
    }

    static void due(String what, long got, long want) {
        if (got == want) {
            passed++;
        } else {
            failed++;
            System.out.println("WRONG " + what + " answered " + got + ", due is " + want);
        }
    }

    static void holds(String what, boolean condition) {
        due(what, condition ? 1 : 0, 1);
    }

    static void finish(String name) {
        System.out.println(name + ": " + passed + " checks right, " + failed + " wrong");
        if (failed != 0) {
            System.exit(1);
        }
    }

    /** Appends a text; the buffer must be empty before. */
    static void type(EscapeRouter router, String text) {
        for (int i = 0; i < text.length(); i++) {
            due("appendCharacter of " + text + " at " + i, router.appendCharacter(text.charAt(i)), i + 1);
        }
    }

    /** A router with the grid of the text. */
    static EscapeRouter loaded(String text) {
        EscapeRouter router = new EscapeRouter();
        type(router, text);
        int signals = (int) text.chars().filter(c -> c == 's').count();
        due("loadGrid of " + text, router.loadGrid(), signals);
        return router;
    }

    /** A router with the grid of the text and the capacities. */
    static EscapeRouter loaded(String text, int channelCapacity, int tileCapacity) {
        EscapeRouter router = loaded(text);
        due("setChannelCapacity", router.setChannelCapacity(channelCapacity), 1);
        due("setTileCapacity", router.setTileCapacity(tileCapacity), 2);
        return router;
    }
}
