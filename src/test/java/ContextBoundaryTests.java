/** The sentences of promises 14 to 19, and of the section "Context", that name a boundary case: a test for each. */
public final class ContextBoundaryTests extends Checks {
    public static void main(String[] arguments) {
        contextSizeOfTheFirstContext();
        contextSizeWithoutAssignments();
        contextSizeWithAllAssignments();
        knownFromNoneToAll();
        knownWithoutAssignments();
        knownBehindScopes();
        objectsRefuses();
        objectsOfUnknownVariables();
        objectsWithoutAssignments();
        objectsFromTheFirstToTheLast();
        togetherRefusesVariables();
        togetherRefusesObjects();
        togetherRefusesSeveralAtOnce();
        togetherOfUnknownVariables();
        togetherRefusesAheadOfUnknown();
        togetherWithoutAssignments();
        togetherOfTheSameVariable();
        togetherOfTwoVariables();
        resetContextTellsTheNumber();
        resetContextMakesTheFirstContext();
        resetContextLeavesTheRest();
        resetContextIsAnAction();
        setAccommodationTellsThePreviousOne();
        setAccommodationRefuses();
        setAccommodationIsAnAction();
        finish();
    }

    // ---- promises 14 and 15

    private static void contextSizeOfTheFirstContext() {
        promise(14, "The first context has no known variables and one assignment");
        for (int n : WORLDS) asked("contextSize()", () -> world(n), DiscourseContexts::contextSize, 1);
    }

    private static void contextSizeWithoutAssignments() {
        promise(14, "Returns the number of assignments of the context: none");
        for (int n : WORLDS) {
            asked("contextSize()", () -> withoutAssignments(n), DiscourseContexts::contextSize, 0);
            DiscourseContexts d = withoutAssignments(n);
            due("accept() of Ex;Ey;Ez", accept(d, "Ex;Ey;Ez"), 0);
            due("contextSize()", d.contextSize(), 0);
        }
    }

    private static void contextSizeWithAllAssignments() {
        promise(14, "Returns the number of assignments of the context: all");
        int[] all = {1, 27, 343};
        for (int n : WORLDS) {
            asked("contextSize()", () -> knowing(n, "Ez;Ey;Ex"), DiscourseContexts::contextSize, all[n - 1]);
            DiscourseContexts d = knowing(n, "Ex;Ey;Ez");
            accept(d, "Ez;Ex;Ey;Ex;Ey;Ez");
            due("contextSize() behind the same again", d.contextSize(), all[n - 1]);
        }
    }

    private static String makingKnown(int variables) {
        StringBuilder text = new StringBuilder("E" + (char) ('x' + Integer.numberOfTrailingZeros(variables)));
        for (int variable : VARIABLES) {
            if ((variables >> variable & 1) == 1) text.append(";E").append((char) ('x' + variable));
        }
        return text.toString();
    }

    private static void knownFromNoneToAll() {
        promise(15, "Returns a number whose bit v is 1 if the variable v (0 to 2) is known in the context");
        for (int n : WORLDS) {
            asked("known()", () -> world(n), DiscourseContexts::known, 0);
            for (int variables = 1; variables < 8; variables++) {
                String text = makingKnown(variables);
                asked("known() behind " + text, () -> knowing(n, text), DiscourseContexts::known, variables);
            }
        }
    }

    private static void knownWithoutAssignments() {
        promise(15, "known in the context (also in one without assignments)");
        for (int n : WORLDS) {
            for (int variables = 1; variables < 8; variables++) {
                String text = makingKnown(variables) + ";!(Ex)";
                due("accept() of " + text, knowing(n, text).contextSize(), 0);
                asked("known() behind " + text, () -> knowing(n, text), DiscourseContexts::known, variables);
            }
        }
    }

    private static void knownBehindScopes() {
        promise(15, "Behind a '!' with its unit, a choice of two or more rows, or a formula with '>', it is only what was known ahead of it");
        for (int n : WORLDS) {
            for (String text : new String[] {"!!Ex", "!(Ex)", "Ex|Ey", "Ex|Ex|Ex", "Ex>Ey", "(Ex>Ex)", "[Ex|Ex]", "[!!Ex]", "(Ex|Ey)>Ez", "Ex&Ey|Ez"}) {
                due("known() behind " + text, knowing(n, text).known(), 0);
                due("known() behind Ez;" + text, knowing(n, "Ez;" + text).known(), 4);
                due("known() behind " + text + ";Ey", knowing(n, text + ";Ey").known(), 2);
            }
            for (String text : new String[] {"Ex", "(Ex)", "[Ex]", "[(Ex)]", "!!Ey&Ex", "Ex;!!Ey", "(Ey|Ez)&Ex", "((Ey>Ez))&((Ex))"}) {
                due("known() behind " + text, knowing(n, text).known(), 1);
            }
        }
    }

    // ---- promise 16

    private static void objectsRefuses() {
        promise(16, "`variable`: 0 to 2; INVALID_ARGUMENT if variable is out of range");
        for (int n : WORLDS) {
            for (int variable : outside(0, 2)) {
                String call = "objects(" + variable + ")";
                refused(call, () -> world(n), d -> d.objects(variable), INVALID);
                refused(call, () -> lived(n), d -> d.objects(variable), INVALID);
                refused(call, () -> knowing(n, "Ex;Ey;Ez"), d -> d.objects(variable), INVALID);
                refused(call, () -> withoutAssignments(n), d -> d.objects(variable), INVALID);
            }
        }
    }

    private static void objectsOfUnknownVariables() {
        promise(16, "NONE if it is not known");
        for (int n : WORLDS) {
            for (int variable : VARIABLES) {
                refused("objects(" + variable + ")", () -> world(n), d -> d.objects(variable), NONE);
                String others = makingKnown(7 & ~(1 << variable));
                refused("objects(" + variable + ") behind " + others, () -> knowing(n, others), d -> d.objects(variable), NONE);
                refused("objects(" + variable + ") without assignments", () -> knowing(n, others + ";!Ex"), d -> d.objects(variable), NONE);
            }
        }
    }

    private static void objectsWithoutAssignments() {
        promise(16, "Returns a number whose bit k is 1 if an assignment gives the object k (there is none)");
        for (int n : WORLDS) {
            for (int variable : VARIABLES) {
                asked("objects(" + variable + ")", () -> knowing(n, "Ex;Ey;Ez;!Ex"), d -> d.objects(variable), 0);
            }
        }
    }

    private static void objectsFromTheFirstToTheLast() {
        promise(16, "Returns a number whose bit k is 1 if an assignment of the context gives the object k to the variable");
        for (int n : WORLDS) {
            int all = everybody(n);
            for (int variable : VARIABLES) {
                String v = "" + (char) ('x' + variable);
                asked("objects(" + variable + ")", () -> knowing(n, "Ex;Ey;Ez"), d -> d.objects(variable), (1 << all + 1) - 2);
                String most = "Ex;Ey;Ez;#" + n + v;
                asked("objects(" + variable + ") behind " + most, () -> knowing(n, most), d -> d.objects(variable), 1 << all);
                for (int object = 1; object <= all; object++) due("the object alone", withObject(n, v, object).objects(variable), 1 << object);
            }
        }
    }

    /** A context in which a variable has one object alone, and the others have any. */
    private static DiscourseContexts withObject(int n, String v, int object) {
        DiscourseContexts d = world(n);
        d.setPredicate(0, object);
        accept(d, "Ex;Ey;Ez;p" + v + "&#" + Integer.bitCount(object) + v);
        return d;
    }

    // ---- promise 17

    private static void togetherRefused(int n, int variable, int object, int other, int otherObject) {
        String call = "together(" + variable + ", " + object + ", " + other + ", " + otherObject + ") of " + n;
        Call together = d -> d.together(variable, object, other, otherObject);
        refused(call, () -> knowing(n, "Ex;Ey;Ez"), together, INVALID);
        due(call + ", nothing known", together.on(world(n)), INVALID);
        due(call + ", without assignments", together.on(withoutAssignments(n)), INVALID);
    }

    private static void togetherRefusesVariables() {
        promise(17, "`variable`, `other`: 0 to 2; INVALID_ARGUMENT if an argument is out of range");
        for (int n : WORLDS) {
            for (int wrong : outside(0, 2)) {
                for (int right : VARIABLES) {
                    togetherRefused(n, wrong, 1, right, everybody(n));
                    togetherRefused(n, right, everybody(n), wrong, 1);
                }
            }
        }
    }

    private static void togetherRefusesObjects() {
        promise(17, "`object`, `otherObject`: an object (1 to 2 to the power of n, less 1); INVALID_ARGUMENT if an argument is out of range");
        for (int n : WORLDS) {
            for (int wrong : outside(1, everybody(n))) {
                for (int variable : VARIABLES) {
                    for (int other : VARIABLES) {
                        togetherRefused(n, variable, wrong, other, 1);
                        togetherRefused(n, variable, everybody(n), other, wrong);
                    }
                }
            }
        }
    }

    private static void togetherRefusesSeveralAtOnce() {
        promise(17, "INVALID_ARGUMENT if an argument is out of range (several at once)");
        for (int n : WORLDS) {
            togetherRefused(n, -1, 0, -1, 0);
            togetherRefused(n, 3, everybody(n) + 1, 3, everybody(n) + 1);
            togetherRefused(n, LEAST, MOST, MOST, LEAST);
            togetherRefused(n, 0, 0, 2, everybody(n) + 1);
        }
    }

    private static void togetherOfUnknownVariables() {
        promise(17, "NONE if one of the variables is not known");
        for (int n : WORLDS) {
            for (int known = 0; known < 8; known++) {
                String text = known == 0 ? "!px" : makingKnown(known);
                for (int variable : VARIABLES) {
                    for (int other : VARIABLES) {
                        boolean both = (known >> variable & known >> other & 1) == 1;
                        if (both) continue;
                        Call together = d -> d.together(variable, everybody(n), other, 1);
                        String call = "together(" + variable + ", .., " + other + ", ..) behind " + text;
                        refused(call, () -> knowing(n, text), together, NONE);
                        if (known != 0) due(call + ";!Ex", together.on(knowing(n, text + ";!Ex")), NONE);
                    }
                }
            }
        }
    }

    private static void togetherRefusesAheadOfUnknown() {
        promise(17, "If several error conditions apply, the method returns the one that its description lists first");
        for (int n : WORLDS) {
            Made xKnown = () -> knowing(n, "Ex");
            refused("together(1, 0, 0, 1)", xKnown, d -> d.together(1, 0, 0, 1), INVALID);
            refused("together(1, .., 0, 1)", xKnown, d -> d.together(1, everybody(n) + 1, 0, 1), INVALID);
            refused("together(0, 1, 1, 0)", xKnown, d -> d.together(0, 1, 1, 0), INVALID);
            refused("together(0, 1, 1, ..)", xKnown, d -> d.together(0, 1, 1, everybody(n) + 1), INVALID);
            refused("together(1, 1, 3, 1)", xKnown, d -> d.together(1, 1, 3, 1), INVALID);
            refused("together(-1, 1, 1, 1)", xKnown, d -> d.together(-1, 1, 1, 1), INVALID);
            refused("together(1, 1, 2, 0), nothing known", () -> world(n), d -> d.together(1, 1, 2, 0), INVALID);
        }
    }

    private static void togetherWithoutAssignments() {
        promise(17, "Returns the number of assignments: none");
        for (int n : WORLDS) {
            for (int variable : VARIABLES) {
                for (int other : VARIABLES) {
                    asked("together(..)", () -> knowing(n, "Ex;Ey;Ez;!Ex"), d -> d.together(variable, 1, other, everybody(n)), 0);
                }
            }
        }
    }

    private static void togetherOfTheSameVariable() {
        promise(17, "which can be the same variable");
        for (int n : WORLDS) {
            int all = everybody(n);
            for (int variable : VARIABLES) {
                DiscourseContexts d = knowing(n, "Ex;Ey;Ez");
                for (int object = 1; object <= all; object++) {
                    for (int other = 1; other <= all; other++) {
                        String call = "together(" + variable + ", " + object + ", " + variable + ", " + other + ")";
                        due(call, d.together(variable, object, variable, other), object == other ? all * all : 0);
                    }
                }
            }
        }
    }

    private static void togetherOfTwoVariables() {
        promise(17, "Returns the number of assignments of the context that give object to variable and otherObject to other");
        for (int n : WORLDS) {
            int all = everybody(n);
            for (int variable : VARIABLES) {
                for (int other : VARIABLES) {
                    if (variable == other) continue;
                    DiscourseContexts every = knowing(n, "Ex;Ey;Ez");
                    DiscourseContexts within = knowing(n, "Ex;Ey;Ez;" + (char) ('x' + variable) + "<" + (char) ('x' + other));
                    for (int object = 1; object <= all; object++) {
                        for (int otherObject = 1; otherObject <= all; otherObject++) {
                            String call = "together(" + variable + ", " + object + ", " + other + ", " + otherObject + ")";
                            due(call, every.together(variable, object, other, otherObject), all);
                            boolean in = (object & otherObject) == object;
                            due(call + " of some", within.together(variable, object, other, otherObject), in ? all : 0);
                        }
                    }
                }
            }
        }
    }

    // ---- promise 18

    private static void resetContextTellsTheNumber() {
        promise(18, "Returns the number of assignments that there were");
        int[] all = {1, 27, 343};
        for (int n : WORLDS) {
            due("resetContext() of the first one", world(n).resetContext(), 1);
            due("resetContext() without assignments", withoutAssignments(n).resetContext(), 0);
            due("resetContext() with all assignments", knowing(n, "Ex;Ey;Ez").resetContext(), all[n - 1]);
            DiscourseContexts d = withoutAssignments(n);
            d.resetContext();
            due("resetContext() again", d.resetContext(), 1);
        }
    }

    private static void resetContextMakesTheFirstContext() {
        promise(18, "Makes the first context the present one");
        for (int n : WORLDS) {
            for (Made made : new Made[] {() -> world(n), () -> withoutAssignments(n), () -> knowing(n, "Ex;Ey;Ez"), () -> lived(n)}) {
                DiscourseContexts d = made.make();
                d.resetContext();
                due("contextSize()", d.contextSize(), 1);
                due("known()", d.known(), 0);
                for (int variable : VARIABLES) due("objects(" + variable + ")", d.objects(variable), NONE);
                due("accept() of px", accept(d, "px"), UNKNOWN);
                due("accept() of Ex", accept(d, "Ex"), everybody(n));
            }
        }
    }

    private static void resetContextLeavesTheRest() {
        promise(18, "Makes the first context the present one (and nothing else)");
        for (int n : WORLDS) {
            DiscourseContexts d = lived(n);
            d.resetContext();
            due("individuals()", d.individuals(), n);
            due("predicate(0)", d.predicate(0), everybody(n));
            due("predicate(1)", d.predicate(1), 1);
            due("relationHolds(0, ..)", d.relationHolds(0, 1, 1 << n - 1), 1);
            due("accommodated()", d.accommodated(), n == 1 ? 0 : 1);
            due("accommodatedPart(0)", d.accommodatedPart(0), n == 1 ? NONE : 1);
            due("clearText()", d.clearText(), 10);
            due("setAccommodation(1)", d.setAccommodation(1), 1);
        }
    }

    private static void resetContextIsAnAction() {
        promise(18, "This is an action (also if nothing changes by it)");
        acted("resetContext(), nothing changes", DiscourseContexts::new, DiscourseContexts::resetContext, 1);
        int[] sizes = {1, 3, 7};
        for (int n : WORLDS) {
            acted("resetContext()", () -> lived(n), DiscourseContexts::resetContext, sizes[n - 1]);
            acted("resetContext()", () -> withoutAssignments(n), DiscourseContexts::resetContext, 0);
        }
    }

    // ---- promise 19

    private static void setAccommodationTellsThePreviousOne() {
        promise(19, "`on`: 1 for on, 0 for off; returns 1 if it was on, otherwise 0");
        for (int n : WORLDS) {
            int previous = 0;
            DiscourseContexts d = world(n);
            for (int on : new int[] {0, 0, 1, 1, 0, 1, 0, 0}) {
                due("setAccommodation(" + on + ")", d.setAccommodation(on), previous);
                int failing = accept(d, "Ex;[#1x]");
                if (n > 1) due("accept() of Ex;[#1x]", failing, on == 1 ? n : FAILS);
                previous = on;
            }
        }
    }

    private static void setAccommodationRefuses() {
        promise(19, "INVALID_ARGUMENT if on is out of range");
        for (int on : outside(0, 1)) {
            refused("setAccommodation(" + on + "), off", DiscourseContexts::new, d -> d.setAccommodation(on), INVALID);
            for (int n : WORLDS) {
                refused("setAccommodation(" + on + "), on", () -> lived(n), d -> d.setAccommodation(on), INVALID);
                refused("setAccommodation(" + on + ")", () -> withoutAssignments(n), d -> d.setAccommodation(on), INVALID);
            }
        }
    }

    private static void setAccommodationIsAnAction() {
        promise(19, "This is an action (also if nothing changes by it)");
        for (int on : SWITCHES) {
            acted("setAccommodation(" + on + "), off", DiscourseContexts::new, d -> d.setAccommodation(on), 0);
            for (int n : WORLDS) {
                acted("setAccommodation(" + on + "), on", () -> lived(n), d -> d.setAccommodation(on), 1);
                acted("setAccommodation(" + on + ")", () -> withoutAssignments(n), d -> d.setAccommodation(on), 0);
            }
        }
    }
}
