import java.util.ArrayList;
import java.util.List;

/** The sentences of promises 28 and 29, of "Undo", of "Errors" and of "What it is", that name a boundary case: a test for each. */
public final class HistoryBoundaryTests extends Checks {
    public static void main(String[] arguments) {
        historySizeFromNoneToFive();
        historySizeOfEachAction();
        historySizeBehindErrors();
        historySizeBehindQuestions();
        undoOfNothing();
        undoTellsWhatIsLeft();
        theOldestIsDropped();
        actionsAndUndosMixed();
        undoRestoresEachThing();
        undoOfTheFirstAction();
        undoLeavesTheText();
        undoIntoAContextWithoutAssignments();
        undoIsNoAction();
        fiveHundredAndTwelveCalls();
        objectsDoNotDisturbOneAnother();
        finish();
    }

    // ---- promise 28

    private static void historySizeFromNoneToFive() {
        promise(28, "A history of at most 5 states is kept");
        for (int n : WORLDS) {
            DiscourseContexts d = new DiscourseContexts();
            due("historySize()", d.historySize(), 0);
            for (int actions = 1; actions <= 12; actions++) {
                d.setIndividuals(n);
                due("historySize() behind " + actions + " actions", d.historySize(), Math.min(actions, 5));
            }
        }
        asked("historySize() of the empty history", DiscourseContexts::new, DiscourseContexts::historySize, 0);
        for (int n : WORLDS) asked("historySize() of the full history", () -> lived(n), DiscourseContexts::historySize, 5);
    }

    private static final Call[] ACTIONS = {
        d -> d.setIndividuals(2), d -> d.setPredicate(0, 0), d -> d.setPair(0, 0, 0, 0), DiscourseContexts::resetContext,
        d -> d.setAccommodation(0), DiscourseContexts::accept};

    private static void historySizeOfEachAction() {
        promise(28, "Every successful call of a method that is called an action records the state (also if nothing changes by it)");
        for (int first = 0; first < ACTIONS.length; first++) {
            for (int second = 0; second < ACTIONS.length; second++) {
                DiscourseContexts d = written("!(Ex&px)");
                ACTIONS[first].on(d);
                due("historySize() behind action " + first, d.historySize(), 1);
                ACTIONS[second].on(d);
                due("historySize() behind action " + second, d.historySize(), 2);
            }
        }
    }

    private static final Call[] REFUSED = {
        d -> d.setIndividuals(0), d -> d.setIndividuals(4), d -> d.setPredicate(3, 0), d -> d.setPredicate(0, 8),
        d -> d.setPair(2, 0, 0, 1), d -> d.setPair(0, 3, 0, 1), d -> d.setPair(0, 0, 3, 1), d -> d.setPair(0, 0, 0, 2),
        d -> d.setAccommodation(2), DiscourseContexts::accept};

    private static void historySizeBehindErrors() {
        promise(28, "A call that returns an error code changes nothing (it records no state)");
        for (String text : new String[] {"", "pz&", "pz", "[!Ex]"}) {
            for (int actions = 0; actions <= 6; actions++) {
                DiscourseContexts d = new DiscourseContexts();
                for (int i = 0; i < actions; i++) d.setPredicate(1, i % 4);
                write(d, text);
                for (Call call : REFUSED) {
                    due("the call is refused (1)", call.on(d) < 0 ? 1 : 0, 1);
                    due("historySize() behind it", d.historySize(), Math.min(actions, 5));
                }
                if (actions > 0) due("undo()", d.undo(), Math.min(actions, 5) - 1);
                due("predicate(1) behind undo()", d.predicate(1), actions < 2 ? 0 : (actions - 2) % 4);
            }
        }
    }

    private static final Call[] QUESTIONS = {
        DiscourseContexts::individuals, d -> d.predicate(0), d -> d.relationHolds(0, 1, 1), d -> d.type('x'), DiscourseContexts::clearText,
        DiscourseContexts::syntaxFault, DiscourseContexts::unknownVariable, DiscourseContexts::unknownDepth, DiscourseContexts::partCount,
        DiscourseContexts::contextSize, DiscourseContexts::known, d -> d.objects(0), d -> d.together(0, 1, 0, 1),
        DiscourseContexts::acceptable, DiscourseContexts::failingAt, DiscourseContexts::accommodated, d -> d.accommodatedPart(0),
        d -> d.sizeBehind(0), DiscourseContexts::supports, DiscourseContexts::worldsTrue, DiscourseContexts::historySize};

    private static void historySizeBehindQuestions() {
        promise(28, "a method that is called an action (the others are none)");
        for (Call call : QUESTIONS) {
            DiscourseContexts d = written("Ex;[Ey]");
            call.on(d);
            due("historySize() of the empty history", d.historySize(), 0);
            for (int n : WORLDS) {
                DiscourseContexts full = lived(n);
                full.undo();
                call.on(full);
                due("historySize() of four states", full.historySize(), 4);
            }
        }
    }

    // ---- promise 29

    private static void undoOfNothing() {
        promise(29, "ILLEGAL_STATE if it is empty");
        refused("undo() of a new object", DiscourseContexts::new, DiscourseContexts::undo, ILLEGAL);
        refused("undo() with a text", () -> written("Ex;[Ey]"), DiscourseContexts::undo, ILLEGAL);
        for (int actions = 1; actions <= 12; actions++) {
            int many = actions;
            Made allUndone = () -> {
                DiscourseContexts d = written("Ex;[#1x]");
                for (int i = 0; i < many; i++) d.setPredicate(0, 1 + i % 3);
                for (int i = 0; i < Math.min(many, 5); i++) d.undo();
                return d;
            };
            refused("undo() behind " + actions + " actions", allUndone, DiscourseContexts::undo, ILLEGAL);
        }
        for (int n : WORLDS) {
            DiscourseContexts d = lived(n);
            for (int left = 4; left >= 0; left--) due("undo()", d.undo(), left);
            due("undo() of nothing", d.undo(), ILLEGAL);
            due("individuals() behind it", d.individuals(), n);
        }
    }

    private static void undoTellsWhatIsLeft() {
        promise(29, "Returns the number of states that are left in the history");
        for (int actions = 1; actions <= 12; actions++) {
            DiscourseContexts d = new DiscourseContexts();
            for (int i = 0; i < actions; i++) d.resetContext();
            for (int left = Math.min(actions, 5) - 1; left >= 0; left--) {
                due("undo()", d.undo(), left);
                due("historySize() behind it", d.historySize(), left);
            }
            due("undo() of nothing", d.undo(), ILLEGAL);
            due("historySize() behind it", d.historySize(), 0);
        }
    }

    private static void theOldestIsDropped() {
        promise(29, "when a sixth one is recorded, the oldest one is dropped");
        for (int actions = 1; actions <= 12; actions++) {
            DiscourseContexts d = world(3);
            d.undo();
            d.setIndividuals(3);
            int recorded = actions + 1;
            for (int i = 1; i <= actions; i++) d.setPredicate(0, i % 8);
            for (int undone = 1; undone <= Math.min(actions, 5); undone++) {
                d.undo();
                due("predicate(0) behind " + actions + " actions and " + undone + " undos", d.predicate(0), (actions - undone) % 8);
            }
            boolean firstKept = recorded <= 5;
            due("undo()", d.undo(), firstKept ? 0 : ILLEGAL);
            due("individuals() behind it", d.individuals(), firstKept ? 2 : 3);
        }
    }

    private static void actionsAndUndosMixed() {
        promise(29, "Removes the latest state from the history and restores it");
        for (int first = 0; first <= 7; first++) {
            for (int undone = 0; undone <= 6; undone++) {
                for (int second = 0; second <= 7; second++) mixed(first, undone, second);
            }
        }
    }

    /** Some actions, some undos, some more actions; then the history is undone to its end. */
    private static void mixed(int first, int undone, int second) {
        String run = first + " actions, " + undone + " undos, " + second + " actions";
        DiscourseContexts d = new DiscourseContexts();
        List<Integer> history = new ArrayList<>();
        int set = 0;
        for (int i = 0; i < first + undone + second; i++) {
            if (i >= first && i < first + undone) {
                due("undo() of " + run, d.undo(), history.isEmpty() ? ILLEGAL : history.size() - 1);
                if (!history.isEmpty()) set = history.remove(history.size() - 1);
            } else {
                history.add(set);
                if (history.size() > 5) history.remove(0);
                d.setPredicate(2, (set + i + 1) % 4);
                set = (set + i + 1) % 4;
            }
            due("predicate(2) of " + run, d.predicate(2), set);
        }
        while (!history.isEmpty()) {
            set = history.remove(history.size() - 1);
            due("undo() at the end of " + run, d.undo(), history.size());
            due("predicate(2) at the end of " + run, d.predicate(2), set);
        }
        due("undo() of nothing, " + run, d.undo(), ILLEGAL);
    }

    private static void undoRestoresEachThing() {
        promise(29, "a state is everything but the text and the history");
        DiscourseContexts d = lived(2);
        d.setIndividuals(3);
        d.undo();
        due("individuals()", d.individuals(), 2);
        due("predicate(0)", d.predicate(0), 3);
        due("predicate(1)", d.predicate(1), 1);
        due("relationHolds(0, 1, 2)", d.relationHolds(0, 1, 2), 1);
        due("contextSize()", d.contextSize(), 3);
        due("known()", d.known(), 3);
        due("objects(0)", d.objects(0), 2);
        due("objects(1)", d.objects(1), 14);
        accept(d, "Ez;z=z");
        due("accommodated()", d.accommodated(), 0);
        d.undo();
        due("accommodated() behind undo()", d.accommodated(), 1);
        due("accommodatedPart(0) behind undo()", d.accommodatedPart(0), 1);
        due("known() behind undo()", d.known(), 3);
        due("contextSize() behind undo()", d.contextSize(), 3);
        d.setAccommodation(0);
        d.undo();
        due("setAccommodation(1) behind undo()", d.setAccommodation(1), 1);
        d.setPredicate(2, 2);
        d.undo();
        due("predicate(2) behind undo()", d.predicate(2), 0);
        d.setPair(1, 1, 1, 1);
        d.undo();
        due("relationHolds(1, 2, 2) behind undo()", d.relationHolds(1, 2, 2), 0);
        d.setPair(0, 0, 1, 0);
        d.undo();
        due("relationHolds(0, 1, 2) behind undo()", d.relationHolds(0, 1, 2), 1);
        d.resetContext();
        d.undo();
        due("known() behind undo() of resetContext()", d.known(), 3);
    }

    private static void undoOfTheFirstAction() {
        promise(29, "restores it (the state of a new object)");
        for (Call action : new Call[] {d -> d.setIndividuals(3), d -> d.setPredicate(2, 3), d -> d.setPair(1, 1, 0, 1),
            DiscourseContexts::resetContext, d -> d.setAccommodation(1), d -> accept(d, "Ex;Ey;Ez"), d -> accept(d, "!Ex")}) {
            Made undone = () -> {
                DiscourseContexts d = new DiscourseContexts();
                action.on(d);
                due("undo()", d.undo(), 0);
                d.clearText();
                return d;
            };
            same("what is told behind undo()", told(undone), told(DiscourseContexts::new));
        }
    }

    private static void undoLeavesTheText() {
        promise(29, "a state is everything but the text and the history (the text stays, empty or full)");
        String full = TWENTY_PARTS.substring(0, 57) + "x=x";
        DiscourseContexts d = new DiscourseContexts();
        d.resetContext();
        d.resetContext();
        write(d, full);
        d.undo();
        due("type('x') into the full text", d.type('x'), FULL);
        due("partCount()", d.partCount(), 20);
        due("clearText()", d.clearText(), 60);
        d.undo();
        due("clearText() of the empty text", d.clearText(), 0);
        DiscourseContexts e = written("Ex");
        e.accept();
        write(e, "Ey;Ez");
        e.undo();
        due("partCount()", e.partCount(), 2);
        due("clearText()", e.clearText(), 5);
    }

    private static void undoIntoAContextWithoutAssignments() {
        promise(29, "Removes the latest state from the history and restores it (a context without assignments, too)");
        for (int n : WORLDS) {
            Made made = () -> {
                DiscourseContexts d = new DiscourseContexts();
                d.setIndividuals(n);
                accept(d, "Ex;!(x=x)");
                return d;
            };
            for (Call action : new Call[] {d -> d.setIndividuals(3), DiscourseContexts::resetContext, d -> accept(d, "Ex;!(x=x)")}) {
                Made undone = () -> {
                    DiscourseContexts d = made.make();
                    action.on(d);
                    d.undo();
                    return d;
                };
                same("what is told behind undo()", told(undone), told(made));
                due("contextSize()", undone.make().contextSize(), 0);
                due("known()", undone.make().known(), 1);
            }
            DiscourseContexts d = made.make();
            d.undo();
            due("contextSize() ahead of it", d.contextSize(), 1);
            due("known() ahead of it", d.known(), 0);
        }
    }

    private static void undoIsNoAction() {
        promise(29, "Removes the latest state from the history (and records none)");
        DiscourseContexts d = new DiscourseContexts();
        for (int set = 1; set <= 3; set++) d.setPredicate(0, set);
        due("undo()", d.undo(), 2);
        due("predicate(0)", d.predicate(0), 2);
        due("undo() again", d.undo(), 1);
        due("predicate(0)", d.predicate(0), 1);
        due("undo() a third time", d.undo(), 0);
        due("predicate(0)", d.predicate(0), 0);
        due("undo() of nothing", d.undo(), ILLEGAL);
    }

    // ---- what holds for all promises

    private static void fiveHundredAndTwelveCalls() {
        promise(8, "An object is used for at most 512 calls after it has been made (the last of them answers as the first)");
        DiscourseContexts typed = new DiscourseContexts();
        int calls = 0;
        for (; calls < 488; calls += 61) {
            for (int length = 1; length <= 60; length++) due("type(..)", typed.type("Ex;".charAt((length - 1) % 3)), length);
            due("clearText()", typed.clearText(), 60);
        }
        for (; calls < 504; calls++) due("resetContext()", typed.resetContext(), 1);
        due("setIndividuals(3)", typed.setIndividuals(3), 2);
        for (char c : "Ex;Ey".toCharArray()) typed.type(c);
        due("acceptable(), the 511th call", typed.acceptable(), 49);
        due("accept(), the 512th call", typed.accept(), 49);
        DiscourseContexts acted = new DiscourseContexts();
        for (int i = 0; i < 510; i++) acted.setPredicate(0, i % 4);
        due("predicate(0), the 511th call", acted.predicate(0), 1);
        due("undo(), the 512th call", acted.undo(), 4);
        DiscourseContexts refused = new DiscourseContexts();
        for (int i = 0; i < 511; i++) refused.undo();
        due("undo(), the 512th call", refused.undo(), ILLEGAL);
    }

    private static void objectsDoNotDisturbOneAnother() {
        promise(1, "Creates a world of two individuals with the first context (of its own)");
        for (int n : WORLDS) {
            Made besideOthers = () -> {
                DiscourseContexts d = new DiscourseContexts();
                DiscourseContexts other = lived(n);
                other.worldsTrue();
                other.type('x');
                return d;
            };
            same("what is told of a new object", told(besideOthers), told(DiscourseContexts::new));
        }
    }
}
