import java.util.function.ToIntFunction;

/** The boundary cases of "History and errors" and promise 27, a test for each sentence. */
public final class HistoryEdgesTest {
    public static void main(String[] args) {
        nothingToUndo();
        lastEight();
        eachEditIsUndone();
        notUndoneYet();
        textIsNoPartOfIt();
        editsThatChangeNothing();
        refusedCallsChangeNothing();
        refusedForEmptyAndFull();
        questionsChangeNothing();
        argumentBeforeState();
        lastOf512Calls();
        objectsAreApart();
        Checks.finish("HistoryEdgesTest");
    }

    /** undo: "INVALID_STATE if there is none to undo" */
    private static void nothingToUndo() {
        EscapeRouter x = new EscapeRouter();
        String before = Edges.allAnswers(x);
        Edges.refusedState("a new object", x.undo());
        Edges.refusedState("again", x.undo());
        x.select(0, 0);
        Checks.due("one edit", x.undo(), 0);
        Edges.refusedState("none is left", x.undo());
        Edges.same("as it was", Edges.allAnswers(x), before);
    }

    /** "The last 8 edits can be undone." */
    private static void lastEight() {
        for (int edits = 1; edits <= 20; edits++) {
            int kept = Math.min(edits, 8);
            for (int undone = 1; undone <= kept; undone++) {
                EscapeRouter x = edited(edits);
                for (int i = 1; i <= undone; i++) {
                    Checks.due("undo", x.undo(), kept - i);
                }
                Edges.same("as it was", Edges.allAnswers(x), Edges.allAnswers(edited(edits - undone)));
            }
            EscapeRouter x = edited(edits);
            for (int i = 0; i < kept; i++) {
                x.undo();
            }
            Edges.refusedState("no more", x.undo());
            Edges.same("still so", Edges.allAnswers(x), Edges.allAnswers(edited(edits - kept)));
        }
    }

    /** The pins of a new object become POWER one after the other, then NONE_THERE, then SIGNAL again. */
    private static EscapeRouter edited(int edits) {
        int[] kinds = {2, 0, 1};
        EscapeRouter x = new EscapeRouter();
        for (int i = 0; i < edits; i++) {
            int place = i % 9;
            Checks.holds("setKind", x.setKind(place / 3, place % 3, kinds[i / 9]) >= 0);
        }
        return x;
    }

    /** A router with a pair, a selected pin, capacities of its own and 5 edits to undo. */
    private static EscapeRouter used() {
        EscapeRouter x = Checks.loaded("ssss;sp.s;ssss;ssss;", 0, 1);
        x.makePair(0, 0, 0, 1);
        x.makePair(2, 3, 1, 3);
        x.select(0, 0);
        x.select(2, 2);
        x.undo();
        x.undo();
        x.undo();
        x.undo();
        x.makePair(0, 0, 0, 1);
        x.select(0, 0);
        return x;
    }

    /** "undo() restores the grid, the capacities, the pairs and the selection as they were before" */
    private static void eachEditIsUndone() {
        undone("setKind", x -> x.setKind(0, 0, 2), 1);
        undone("setKind", x -> x.setKind(1, 2, 1), 0);
        undone("setChannelCapacity", x -> x.setChannelCapacity(5), 0);
        undone("setTileCapacity", x -> x.setTileCapacity(9), 1);
        undone("makePair", x -> x.makePair(2, 0, 2, 1), 2);
        undone("breakPair", x -> x.breakPair(0, 1), 0);
        undone("select", x -> x.select(2, 2), 2);
        undone("deselect", x -> x.deselect(0, 0), 0);
        undone("clearSelection", x -> x.clearSelection(), 1);
        undone("loadGrid of a larger grid", x -> load(x, Edges.gridOf('s', 5, 5)), 25);
        undone("loadGrid of a smaller grid", x -> load(x, ".;"), 0);
    }

    private static int load(EscapeRouter x, String text) {
        Checks.type(x, text);
        return x.loadGrid();
    }

    private static void undone(String call, ToIntFunction<EscapeRouter> edit, int due) {
        EscapeRouter asked = used();
        String before = Edges.allAnswers(used());
        Checks.due(call, edit.applyAsInt(asked), due);
        Checks.holds(call + " is seen", !Edges.allAnswers(asked).equals(before));
        Checks.due("undo of " + call, asked.undo(), 5);
        Edges.same("after undo of " + call, Edges.allAnswers(asked), before);
        Checks.due("the channel capacity", asked.setChannelCapacity(0), 0);
        Checks.due("the tile capacity", asked.setTileCapacity(1), 1);
        Checks.due("the selection", asked.clearSelection(), 1);
        Checks.due("the pairs", asked.makePair(2, 0, 2, 1), 2);
        EscapeRouter unasked = used();
        edit.applyAsInt(unasked);
        unasked.undo();
        Edges.same("not asked between", Edges.allAnswers(unasked), before);
    }

    /** "before the latest edit that has not been undone" */
    private static void notUndoneYet() {
        EscapeRouter x = new EscapeRouter();
        x.setTileCapacity(3);
        x.setTileCapacity(4);
        x.setTileCapacity(5);
        Checks.due("undo of 5", x.undo(), 2);
        Checks.due("undo of 4", x.undo(), 1);
        Checks.due("a new edit in their place", x.setTileCapacity(6), 3);
        Checks.due("undo of 6", x.undo(), 1);
        Checks.due("undo of 3", x.undo(), 0);
        Edges.refusedState("what was undone does not come back", x.undo());
        Checks.due("as at first", x.setTileCapacity(1), 2);
    }

    /** appendCharacter and clearText are no edits, and undo leaves the text as it is */
    private static void textIsNoPartOfIt() {
        EscapeRouter x = new EscapeRouter();
        Checks.type(x, "ss;");
        Edges.refusedState("appendCharacter is no edit", x.undo());
        Checks.due("loadGrid", x.loadGrid(), 2);
        Checks.type(x, "p.");
        Checks.due("undo of loadGrid", x.undo(), 0);
        Checks.due("the text goes on", x.appendCharacter(';'), 3);
        Checks.due("loadGrid", x.loadGrid(), 0);
        Checks.due("columns", x.columns(), 2);
        Checks.due("undo", x.undo(), 0);
        Checks.due("the buffer is empty", x.clearText(), 0);
        Edges.refusedState("clearText is no edit", x.undo());
    }

    /** "The successful calls of ... are edits", also those that leave everything as it was */
    private static void editsThatChangeNothing() {
        EscapeRouter x = new EscapeRouter();
        x.setChannelCapacity(1);
        x.setTileCapacity(2);
        Checks.type(x, "sss;sss;sss;");
        x.loadGrid();
        Checks.due("the third", x.undo(), 2);
        Checks.due("the second", x.undo(), 1);
        Checks.due("the first", x.undo(), 0);
        Edges.refusedState("no more", x.undo());
    }

    /** "A call that returns an error changes nothing." */
    private static void refusedCallsChangeNothing() {
        EscapeRouter x = used();
        Checks.type(x, "ss;x");
        String before = Edges.allAnswers(x);
        Checks.due("loadGrid", x.loadGrid(), -13);
        Edges.refusedArgument("appendCharacter", x.appendCharacter(256));
        Edges.refusedArgument("setKind", x.setKind(0, 0, 3));
        Edges.refusedArgument("setKind", x.setKind(4, 0, 2));
        Edges.refusedState("setKind", x.setKind(0, 0, 1));
        Edges.refusedArgument("setChannelCapacity", x.setChannelCapacity(6));
        Edges.refusedArgument("setTileCapacity", x.setTileCapacity(10));
        Edges.refusedArgument("makePair", x.makePair(3, 0, 4, 0));
        Edges.refusedArgument("makePair", x.makePair(2, 0, 2, 2));
        Edges.refusedState("makePair", x.makePair(0, 1, 0, 2));
        Edges.refusedState("makePair", x.makePair(1, 0, 1, 1));
        Edges.refusedArgument("breakPair", x.breakPair(0, 4));
        Edges.refusedState("breakPair", x.breakPair(0, 2));
        Edges.refusedArgument("select", x.select(0, 4));
        Edges.refusedState("select", x.select(0, 0));
        Edges.refusedState("select", x.select(1, 1));
        Edges.refusedArgument("deselect", x.deselect(-1, 0));
        Edges.refusedState("deselect", x.deselect(0, 1));
        Edges.same("nothing has changed", Edges.allAnswers(x), before);
        Checks.due("the text", x.clearText(), 4);
        Checks.due("the selection", x.clearSelection(), 1);
        Checks.due("no refused call was an edit", x.undo(), 5);
    }

    /** The same where nothing is selected and nothing fits into the text buffer. */
    private static void refusedForEmptyAndFull() {
        EscapeRouter x = used();
        x.clearSelection();
        Checks.type(x, " ".repeat(60));
        String before = Edges.allAnswers(x);
        Edges.refusedState("clearSelection", x.clearSelection());
        Checks.due("appendCharacter", x.appendCharacter('s'), EscapeRouter.LIMIT_REACHED);
        Checks.due("loadGrid", x.loadGrid(), -70);
        Edges.same("nothing has changed", Edges.allAnswers(x), before);
        Checks.due("the text", x.clearText(), 60);
        Checks.due("no refused call was an edit", x.undo(), 5);
    }

    /** What the calls without an effect answer does not depend on what was asked before, nor do they edit. */
    private static void questionsChangeNothing() {
        EscapeRouter x = used();
        String first = Edges.allAnswers(x);
        Edges.same("asked again", Edges.allAnswers(x), first);
        EscapeRouter y = used();
        Checks.due("bestStrategy first", y.bestStrategy(), x.bestStrategy());
        Checks.due("lowerBound first", y.lowerBound(), x.lowerBound());
        Checks.due("cutChannels first", y.cutChannels(), x.cutChannels());
        Edges.same("asked in another order", Edges.allAnswers(y), first);
        Checks.due("no question is an edit", x.undo(), 4);
    }

    /** "INVALID_ARGUMENT is returned rather than INVALID_STATE, and INVALID_STATE rather than LIMIT_REACHED" */
    private static void argumentBeforeState() {
        EscapeRouter x = Checks.loaded("p;");
        Edges.refusedArgument("setKind", x.setKind(0, 1, 2));
        Edges.refusedArgument("makePair", x.makePair(0, 0, 0, 0));
        Edges.refusedArgument("makePair", x.makePair(0, 0, 0, 1));
        Edges.refusedArgument("breakPair", x.breakPair(1, 0));
        Edges.refusedArgument("select", x.select(1, 0));
        Edges.refusedArgument("deselect", x.deselect(1, 0));
        Edges.refusedArgument("layerOf", x.layerOf(0, 1, 0));
        Checks.type(x, "s".repeat(60));
        Edges.refusedArgument("appendCharacter", x.appendCharacter(-1));
    }

    /** "An object is used for at most 512 calls after it has been made": the last one counts as well */
    private static void lastOf512Calls() {
        EscapeRouter x = new EscapeRouter();
        for (int i = 0; i < 510; i++) {
            Checks.due("setTileCapacity", x.setTileCapacity(i % 10), i == 0 ? 2 : (i - 1) % 10);
        }
        Checks.due("undo, the 511th", x.undo(), 7);
        Checks.due("the 512th", x.setTileCapacity(0), 8);
    }

    /** Two objects know nothing of one another. */
    private static void objectsAreApart() {
        EscapeRouter x = new EscapeRouter();
        EscapeRouter y = new EscapeRouter();
        String before = Edges.allAnswers(y);
        x.appendCharacter('s');
        x.setKind(1, 1, 0);
        x.makePair(0, 0, 0, 1);
        x.select(2, 2);
        x.setTileCapacity(0);
        Edges.same("the other one", Edges.allAnswers(y), before);
        Checks.due("its text", y.clearText(), 0);
        Edges.refusedState("its edits", y.undo());
    }
}
