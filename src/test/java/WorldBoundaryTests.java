/** The sentences of promises 1 to 7, and of the section "World", that name a boundary case: a test for each. */
public final class WorldBoundaryTests extends Checks {
    private static final char[] NAMES_OF_PREDICATES = {'p', 'q', 'r'};
    private static final char[] NAMES_OF_RELATIONS = {'s', 't'};

    public static void main(String[] arguments) {
        theConstants();
        twoIndividualsAtFirst();
        emptyPredicatesAtFirst();
        emptyRelationsAtFirst();
        theFirstContextAtFirst();
        theEmptyTextAtFirst();
        noAccommodationAtFirst();
        theEmptyHistoryAtFirst();
        nothingAcceptedAtFirst();
        oneToThreeIndividuals();
        setIndividualsRefuses();
        setIndividualsEmptiesTheSets();
        setIndividualsMakesTheFirstContext();
        setIndividualsIsAnAction();
        threePredicatesAndAllTheirSets();
        setPredicateRefusesThePredicate();
        setPredicateRefusesTheSet();
        setPredicateLeavesTheContext();
        setPredicateIsAnAction();
        twoRelationsAndAllTheirPairs();
        setPairRefuses();
        setPairRefusesSeveralAtOnce();
        setPairLeavesTheContext();
        setPairIsAnAction();
        individualsTellsTheNumber();
        predicateRefuses();
        objectsAreOneToAll();
        relationHoldsRefuses();
        relationsOfObjects();
        predicatesOfObjects();
        relationsOfObjectsInTexts();
        finish();
    }

    // ---- promise 1

    private static void theConstants() {
        promise(2, "INVALID_ARGUMENT = -1");
        due("INVALID_ARGUMENT", DiscourseContexts.INVALID_ARGUMENT, -1);
        promise(11, "SYNTAX_FAULT = -2");
        due("SYNTAX_FAULT", DiscourseContexts.SYNTAX_FAULT, -2);
        promise(20, "UNKNOWN_VARIABLE = -3");
        due("UNKNOWN_VARIABLE", DiscourseContexts.UNKNOWN_VARIABLE, -3);
        promise(20, "PRESUPPOSITION_FAILS = -4");
        due("PRESUPPOSITION_FAILS", DiscourseContexts.PRESUPPOSITION_FAILS, -4);
        promise(8, "CAPACITY_EXCEEDED = -5");
        due("CAPACITY_EXCEEDED", DiscourseContexts.CAPACITY_EXCEEDED, -5);
        promise(29, "ILLEGAL_STATE = -6");
        due("ILLEGAL_STATE", DiscourseContexts.ILLEGAL_STATE, -6);
        promise(10, "NONE = -7");
        due("NONE", DiscourseContexts.NONE, -7);
    }

    private static void twoIndividualsAtFirst() {
        promise(1, "n is 1 to 3, 2 at first");
        DiscourseContexts d = new DiscourseContexts();
        due("individuals()", d.individuals(), 2);
        due("relationHolds(0, 3, 3)", d.relationHolds(0, 3, 3), 0);
        due("relationHolds(0, 4, 3)", d.relationHolds(0, 4, 3), INVALID);
        due("setPair(0, 1, 1, 1)", d.setPair(0, 1, 1, 1), 0);
        due("setPair(0, 2, 1, 1)", d.setPair(0, 2, 1, 1), INVALID);
        due("accept() of Ex", accept(d, "Ex"), 3);
    }

    private static void emptyPredicatesAtFirst() {
        promise(1, "three predicates, each of which has a set of individuals, empty at first");
        for (int predicate : PREDICATES) {
            due("predicate(" + predicate + ")", new DiscourseContexts().predicate(predicate), 0);
            due("setPredicate(" + predicate + ", 3)", new DiscourseContexts().setPredicate(predicate, 3), 0);
            String text = "Ex&" + NAMES_OF_PREDICATES[predicate] + "x";
            due("accept() of " + text, written(text).accept(), 0);
        }
    }

    private static void emptyRelationsAtFirst() {
        promise(1, "two relations, each of which has a set of pairs of individuals, empty at first");
        for (int relation : RELATIONS) {
            DiscourseContexts d = new DiscourseContexts();
            for (int one = 1; one <= 3; one++) {
                for (int other = 1; other <= 3; other++) {
                    due("relationHolds(" + relation + ", " + one + ", " + other + ")", d.relationHolds(relation, one, other), 0);
                }
            }
            for (int pair = 0; pair < 4; pair++) {
                due("setPair(" + relation + ", ..)", d.setPair(relation, pair / 2, pair % 2, 1), 0);
            }
            String text = "Ex&Ey&" + NAMES_OF_RELATIONS[relation] + "xy";
            due("accept() of " + text, written(text).accept(), 0);
        }
    }

    private static void isFirstContext(String behind, DiscourseContexts d) {
        due("contextSize() behind " + behind, d.contextSize(), 1);
        due("known() behind " + behind, d.known(), 0);
        for (int variable : VARIABLES) {
            due("objects(" + variable + ") behind " + behind, d.objects(variable), NONE);
            due("together(" + variable + ", ..) behind " + behind, d.together(variable, 1, variable, 1), NONE);
        }
    }

    private static void theFirstContextAtFirst() {
        promise(1, "The first context has no known variables and one assignment, which gives nothing");
        isFirstContext("new", new DiscourseContexts());
        due("unknownVariable() of px", written("px").unknownVariable(), 1);
    }

    private static void theEmptyTextAtFirst() {
        promise(1, "There is one text of at most 60 characters, empty at first");
        due("clearText()", new DiscourseContexts().clearText(), 0);
        due("syntaxFault()", new DiscourseContexts().syntaxFault(), 0);
        due("type('E')", new DiscourseContexts().type('E'), 1);
    }

    private static void noAccommodationAtFirst() {
        promise(1, "the accommodation is off at first");
        due("setAccommodation(0)", new DiscourseContexts().setAccommodation(0), 0);
        due("setAccommodation(1)", new DiscourseContexts().setAccommodation(1), 0);
        due("accept() of Ex;[#1x]", written("Ex;[#1x]").accept(), FAILS);
    }

    private static void theEmptyHistoryAtFirst() {
        promise(1, "a new object has recorded no state");
        due("historySize()", new DiscourseContexts().historySize(), 0);
        refused("undo()", DiscourseContexts::new, DiscourseContexts::undo, ILLEGAL);
    }

    private static void nothingAcceptedAtFirst() {
        promise(1, "0 if none was accepted");
        due("accommodated()", new DiscourseContexts().accommodated(), 0);
        due("accommodatedPart(0)", new DiscourseContexts().accommodatedPart(0), NONE);
    }

    // ---- promise 2

    private static void oneToThreeIndividuals() {
        promise(2, "`individuals`: 1 to 3; returns the previous number");
        for (int before : WORLDS) {
            for (int behind : WORLDS) {
                DiscourseContexts d = lived(before);
                due("setIndividuals(" + behind + ") from " + before, d.setIndividuals(behind), before);
                due("individuals() from " + before, d.individuals(), behind);
                due("accept() of Ez", accept(d, "Ez"), everybody(behind));
            }
        }
    }

    private static void setIndividualsRefuses() {
        promise(2, "INVALID_ARGUMENT if individuals is out of range");
        for (int n : WORLDS) {
            for (int individuals : outside(1, 3)) {
                refused("setIndividuals(" + individuals + ") from " + n, () -> lived(n), d -> d.setIndividuals(individuals), INVALID);
            }
            refused("setIndividuals(0), no assignments", () -> withoutAssignments(n), d -> d.setIndividuals(0), INVALID);
        }
        refused("setIndividuals(0), empty history", DiscourseContexts::new, d -> d.setIndividuals(0), INVALID);
        refused("setIndividuals(4), empty history", DiscourseContexts::new, d -> d.setIndividuals(4), INVALID);
    }

    private static DiscourseContexts furnished(int individuals) {
        DiscourseContexts d = world(individuals);
        for (int predicate : PREDICATES) d.setPredicate(predicate, everybody(individuals));
        for (int pair = 0; pair < individuals * individuals; pair++) {
            for (int relation : RELATIONS) d.setPair(relation, pair / individuals, pair % individuals, 1);
        }
        return d;
    }

    private static void setIndividualsEmptiesTheSets() {
        promise(2, "the sets of all predicates and relations become empty");
        for (int before : WORLDS) {
            for (int behind : WORLDS) {
                DiscourseContexts d = furnished(before);
                d.setIndividuals(behind);
                // What is hidden in a smaller world would come to light in the largest one.
                for (int again = 0; again < 2; again++) {
                    for (int predicate : PREDICATES) due("predicate(" + predicate + ")", d.predicate(predicate), 0);
                    for (int pair = 0; pair < d.individuals() * d.individuals(); pair++) {
                        int one = 1 << pair / d.individuals();
                        int other = 1 << pair % d.individuals();
                        for (int relation : RELATIONS) due("relationHolds(..)", d.relationHolds(relation, one, other), 0);
                    }
                    d.setIndividuals(3);
                }
            }
        }
    }

    private static void setIndividualsMakesTheFirstContext() {
        promise(2, "the context is the first one");
        for (int before : WORLDS) {
            for (int behind : WORLDS) {
                DiscourseContexts none = withoutAssignments(before);
                none.setIndividuals(behind);
                isFirstContext("setIndividuals(" + behind + ") without assignments", none);
                DiscourseContexts all = knowing(before, "Ex;Ey;Ez");
                all.setIndividuals(behind);
                isFirstContext("setIndividuals(" + behind + ") with all assignments", all);
                DiscourseContexts first = world(before);
                first.setIndividuals(behind);
                isFirstContext("setIndividuals(" + behind + ") in the first one", first);
            }
        }
    }

    private static void setIndividualsIsAnAction() {
        promise(2, "This is an action (also if nothing changes by it)");
        acted("setIndividuals(2), nothing changes", DiscourseContexts::new, d -> d.setIndividuals(2), 2);
        for (int before : WORLDS) {
            for (int behind : WORLDS) {
                acted("setIndividuals(" + behind + ")", () -> lived(before), d -> d.setIndividuals(behind), before);
                acted("setIndividuals(" + behind + ")", () -> withoutAssignments(before), d -> d.setIndividuals(behind), before);
            }
        }
    }

    // ---- promise 3

    private static void threePredicatesAndAllTheirSets() {
        promise(3, "`predicate`: 0 to 2; `set`: 0 to 2 to the power of n, less 1; returns the previous set");
        for (int n : WORLDS) {
            for (int predicate : PREDICATES) {
                int previous = 0;
                DiscourseContexts d = world(n);
                for (int step = 0; step <= 2 * everybody(n); step++) {
                    int set = step <= everybody(n) ? everybody(n) - step : step - everybody(n);
                    due("setPredicate(" + predicate + ", " + set + ")", d.setPredicate(predicate, set), previous);
                    for (int other : PREDICATES) {
                        due("predicate(" + other + ")", d.predicate(other), other == predicate ? set : 0);
                    }
                    previous = set;
                }
            }
        }
    }

    private static void setPredicateRefusesThePredicate() {
        promise(3, "`predicate`: 0 to 2; INVALID_ARGUMENT if an argument is out of range");
        for (int n : WORLDS) {
            for (int predicate : outside(0, 2)) {
                for (int set : new int[] {0, everybody(n), everybody(n) + 1, -1}) {
                    refused("setPredicate(" + predicate + ", " + set + ") of " + n, () -> lived(n), d -> d.setPredicate(predicate, set), INVALID);
                }
            }
        }
    }

    private static void setPredicateRefusesTheSet() {
        promise(3, "`set`: 0 to 2 to the power of n, less 1; INVALID_ARGUMENT if an argument is out of range");
        for (int n : WORLDS) {
            for (int set : outside(0, everybody(n))) {
                for (int predicate : PREDICATES) {
                    refused("setPredicate(" + predicate + ", " + set + ") of " + n, () -> lived(n), d -> d.setPredicate(predicate, set), INVALID);
                }
            }
        }
        refused("setPredicate(0, 4), empty history", DiscourseContexts::new, d -> d.setPredicate(0, 4), INVALID);
        refused("setPredicate(3, 0), empty history", DiscourseContexts::new, d -> d.setPredicate(3, 0), INVALID);
        refused("setPredicate(0, -1), no assignments", () -> withoutAssignments(2), d -> d.setPredicate(0, -1), INVALID);
        DiscourseContexts grown = world(1);
        grown.setIndividuals(3);
        due("setPredicate(0, 7) behind setIndividuals(3)", grown.setPredicate(0, 7), 0);
        grown.setIndividuals(1);
        due("setPredicate(0, 2) behind setIndividuals(1)", grown.setPredicate(0, 2), INVALID);
        grown.undo();
        due("setPredicate(0, 7) behind undo()", grown.setPredicate(0, 7), 7);
    }

    private static void setPredicateLeavesTheContext() {
        promise(3, "the context stays as it is");
        for (int n : WORLDS) {
            for (int predicate : PREDICATES) {
                DiscourseContexts d = knowing(n, "Ex&#1x;Ez");
                d.setPredicate(predicate, everybody(n));
                due("contextSize()", d.contextSize(), n * everybody(n));
                due("known()", d.known(), 5);
                accept(d, "Ex&" + NAMES_OF_PREDICATES[predicate] + "x");
                d.setPredicate(predicate, 0);
                due("contextSize() behind a smaller set", d.contextSize(), everybody(n) * everybody(n));
                DiscourseContexts none = withoutAssignments(n);
                none.setPredicate(predicate, everybody(n));
                due("contextSize() without assignments", none.contextSize(), 0);
                due("known() without assignments", none.known(), 1);
            }
        }
    }

    private static void setPredicateIsAnAction() {
        promise(3, "This is an action (also if nothing changes by it)");
        for (int predicate : PREDICATES) {
            acted("setPredicate(" + predicate + ", 0), nothing changes", DiscourseContexts::new, d -> d.setPredicate(predicate, 0), 0);
            for (int n : WORLDS) {
                int previous = lived(n).predicate(predicate);
                for (int set : new int[] {0, everybody(n)}) {
                    acted("setPredicate(" + predicate + ", " + set + ")", () -> lived(n), d -> d.setPredicate(predicate, set), previous);
                }
                acted("setPredicate(" + predicate + ", 1)", () -> withoutAssignments(n), d -> d.setPredicate(predicate, 1), 0);
            }
        }
    }

    // ---- promise 4

    private static void twoRelationsAndAllTheirPairs() {
        promise(4, "Returns 1 if it was in the set, otherwise 0");
        for (int n : WORLDS) {
            for (int pair = 0; pair < n * n; pair++) {
                for (int relation : RELATIONS) onePair(n, relation, pair / n, pair % n);
            }
        }
    }

    private static void onePair(int n, int relation, int from, int to) {
        DiscourseContexts d = world(n);
        String call = "setPair(" + relation + ", " + from + ", " + to + ", ";
        due(call + "0) of an empty set", d.setPair(relation, from, to, 0), 0);
        due(call + "1) of an empty set", d.setPair(relation, from, to, 1), 0);
        due(call + "1) again", d.setPair(relation, from, to, 1), 1);
        for (int pair = 0; pair < n * n; pair++) {
            boolean same = pair == from * n + to;
            due("relationHolds(..) of pair " + pair, d.relationHolds(relation, 1 << pair / n, 1 << pair % n), same ? 1 : 0);
            due("the other relation of pair " + pair, d.relationHolds(1 - relation, 1 << pair / n, 1 << pair % n), 0);
        }
        due(call + "0)", d.setPair(relation, from, to, 0), 1);
        due(call + "0) again", d.setPair(relation, from, to, 0), 0);
        due("relationHolds(..)", d.relationHolds(relation, 1 << from, 1 << to), 0);
        DiscourseContexts full = furnished(n);
        due(call + "0) of a full set", full.setPair(relation, from, to, 0), 1);
        for (int pair = 0; pair < n * n; pair++) {
            boolean same = pair == from * n + to;
            due("relationHolds(..) of pair " + pair, full.relationHolds(relation, 1 << pair / n, 1 << pair % n), same ? 0 : 1);
            due("the other relation of pair " + pair, full.relationHolds(1 - relation, 1 << pair / n, 1 << pair % n), 1);
        }
    }

    private static void pairRefused(int n, int relation, int from, int to, int holds) {
        String call = "setPair(" + relation + ", " + from + ", " + to + ", " + holds + ") of " + n;
        refused(call, () -> lived(n), d -> d.setPair(relation, from, to, holds), INVALID);
    }

    private static void setPairRefuses() {
        promise(4, "`relation`: 0 or 1; `from`, `to`: an individual; `holds`: 1 or 0; INVALID_ARGUMENT if an argument is out of range");
        for (int n : WORLDS) {
            for (int ends = 0; ends < 8; ends++) {
                int relation = ends >> 2;
                int one = (ends >> 1 & 1) * (n - 1);
                int other = (ends & 1) * (n - 1);
                for (int wrong : outside(0, 1)) {
                    pairRefused(n, wrong, one, other, relation);
                    pairRefused(n, relation, one, other, wrong);
                }
                for (int wrong : outside(0, n - 1)) {
                    pairRefused(n, relation, wrong, one, ends & 1);
                    pairRefused(n, relation, one, wrong, ends & 1);
                }
            }
        }
    }

    private static void setPairRefusesSeveralAtOnce() {
        promise(4, "INVALID_ARGUMENT if an argument is out of range (several at once)");
        for (int n : WORLDS) {
            pairRefused(n, -1, -1, -1, -1);
            pairRefused(n, 2, n, n, 2);
            pairRefused(n, 0, -1, n, 1);
            pairRefused(n, 2, 0, 0, 2);
            pairRefused(n, LEAST, MOST, LEAST, MOST);
        }
        refused("setPair(0, 0, 2, 1), empty history", DiscourseContexts::new, d -> d.setPair(0, 0, 2, 1), INVALID);
        refused("setPair(2, 0, 0, 1), empty history", DiscourseContexts::new, d -> d.setPair(2, 0, 0, 1), INVALID);
        refused("setPair(0, 0, 0, 2), no assignments", () -> withoutAssignments(2), d -> d.setPair(0, 0, 0, 2), INVALID);
    }

    private static void setPairLeavesTheContext() {
        promise(4, "the context stays as it is");
        for (int n : WORLDS) {
            for (int relation : RELATIONS) {
                DiscourseContexts d = furnished(n);
                accept(d, "Ex&Ey&" + NAMES_OF_RELATIONS[relation] + "xy");
                d.setPair(relation, 0, 0, 0);
                due("contextSize()", d.contextSize(), everybody(n) * everybody(n));
                due("known()", d.known(), 3);
                DiscourseContexts none = withoutAssignments(n);
                none.setPair(relation, n - 1, n - 1, 1);
                due("contextSize() without assignments", none.contextSize(), 0);
                due("known() without assignments", none.known(), 1);
            }
        }
    }

    private static void setPairIsAnAction() {
        promise(4, "This is an action (also if nothing changes by it)");
        acted("setPair(0, 0, 0, 0), nothing changes", DiscourseContexts::new, d -> d.setPair(0, 0, 0, 0), 0);
        acted("setPair(1, 1, 1, 0), nothing changes", DiscourseContexts::new, d -> d.setPair(1, 1, 1, 0), 0);
        for (int n : WORLDS) {
            acted("setPair(0, .., 1), nothing changes", () -> lived(n), d -> d.setPair(0, 0, n - 1, 1), 1);
            acted("setPair(0, .., 0)", () -> lived(n), d -> d.setPair(0, 0, n - 1, 0), 1);
            acted("setPair(1, .., 1)", () -> lived(n), d -> d.setPair(1, n - 1, n - 1, 1), 0);
            acted("setPair(1, .., 1)", () -> withoutAssignments(n), d -> d.setPair(1, n - 1, 0, 1), 0);
        }
    }

    // ---- promises 5 and 6

    private static void individualsTellsTheNumber() {
        promise(5, "Returns the number of individuals (1 to 3)");
        for (int n : WORLDS) {
            asked("individuals()", () -> lived(n), DiscourseContexts::individuals, n);
            asked("individuals()", () -> withoutAssignments(n), DiscourseContexts::individuals, n);
        }
    }

    private static void predicateRefuses() {
        promise(6, "`predicate`: 0 to 2; INVALID_ARGUMENT if predicate is out of range");
        for (int n : WORLDS) {
            asked("predicate(0)", () -> lived(n), d -> d.predicate(0), everybody(n));
            asked("predicate(1)", () -> lived(n), d -> d.predicate(1), 1);
            asked("predicate(2)", () -> lived(n), d -> d.predicate(2), 0);
            for (int predicate : outside(0, 2)) {
                refused("predicate(" + predicate + ")", () -> lived(n), d -> d.predicate(predicate), INVALID);
            }
        }
    }

    // ---- promise 7

    private static void objectsAreOneToAll() {
        promise(7, "objects are 1 to 2 to the power of n, less 1");
        for (int n : WORLDS) {
            for (int relation : RELATIONS) {
                for (int one = 1; one <= everybody(n); one++) {
                    for (int other = 1; other <= everybody(n); other++) {
                        due("of empty relations of " + n, world(n).relationHolds(relation, one, other), 0);
                        due("of full relations of " + n, furnished(n).relationHolds(relation, one, other), 1);
                    }
                }
            }
        }
    }

    private static void relationRefused(int n, int relation, int one, int other) {
        String call = "relationHolds(" + relation + ", " + one + ", " + other + ") of " + n;
        refused(call, () -> furnished(n), d -> d.relationHolds(relation, one, other), INVALID);
    }

    private static void relationHoldsRefuses() {
        promise(7, "`relation`: 0 or 1; `one`, `other`: an object; INVALID_ARGUMENT if an argument is out of range");
        for (int n : WORLDS) {
            for (int end : new int[] {1, everybody(n)}) {
                for (int relation : outside(0, 1)) relationRefused(n, relation, end, end);
                for (int relation : RELATIONS) {
                    for (int wrong : outside(1, everybody(n))) {
                        relationRefused(n, relation, wrong, end);
                        relationRefused(n, relation, end, wrong);
                        relationRefused(n, relation, wrong, wrong);
                    }
                }
            }
            relationRefused(n, 2, 0, 0);
            relationRefused(n, -1, everybody(n) + 1, 1);
        }
    }

    /** The sentence of the document, for a set of pairs in which bit 3 * i + j stands for the pair (i, j). */
    private static boolean related(int pairs, int one, int other) {
        boolean related = true;
        for (int i = 0; i < 3; i++) {
            boolean reaches = false;
            boolean reached = false;
            for (int j = 0; j < 3; j++) {
                reaches |= (other >> j & 1) == 1 && (pairs >> 3 * i + j & 1) == 1;
                reached |= (one >> j & 1) == 1 && (pairs >> 3 * j + i & 1) == 1;
            }
            related &= (one >> i & 1) == 0 || reaches;
            related &= (other >> i & 1) == 0 || reached;
        }
        return related;
    }

    private static DiscourseContexts withPairs(int n, int relation, int pairs) {
        DiscourseContexts d = world(n);
        for (int pair = 0; pair < 9; pair++) {
            if ((pairs >> pair & 1) == 1) d.setPair(relation, pair / 3, pair % 3, 1);
        }
        return d;
    }

    /** Whether all pairs are pairs of individuals below n. */
    private static boolean fits(int n, int pairs) {
        for (int pair = 0; pair < 9; pair++) {
            if ((pairs >> pair & 1) == 1 && (pair / 3 >= n || pair % 3 >= n)) return false;
        }
        return true;
    }

    private static void relationsOfObjects() {
        promise(7, "for each individual i of a there is an individual j of b, and for each j of b there is an i of a");
        for (int n : WORLDS) {
            for (int pairs = 0; pairs < 512; pairs++) {
                if (!fits(n, pairs)) continue;
                for (int relation : RELATIONS) {
                    DiscourseContexts d = withPairs(n, relation, pairs);
                    for (int one = 1; one <= everybody(n); one++) {
                        for (int other = 1; other <= everybody(n); other++) {
                            String call = "relationHolds(" + relation + ", " + one + ", " + other + ") of " + n + ", pairs " + pairs;
                            due(call, d.relationHolds(relation, one, other), related(pairs, one, other) ? 1 : 0);
                        }
                    }
                }
            }
        }
    }

    // ---- the world in the texts

    private static void predicatesOfObjects() {
        promise(20, "A predicate holds of an object if all individuals of the object are in its set");
        for (int n : WORLDS) {
            for (int predicate : PREDICATES) {
                for (int set = 0; set <= everybody(n); set++) {
                    DiscourseContexts d = world(n);
                    d.setPredicate(predicate, set);
                    accept(d, "Ey&" + NAMES_OF_PREDICATES[predicate] + "y");
                    int objects = 0;
                    for (int object = 1; object <= everybody(n); object++) objects |= (object & set) == object ? 1 << object : 0;
                    due("objects(1) of " + n + ", set " + set, d.objects(1), objects);
                }
            }
        }
    }

    private static void relationsOfObjectsInTexts() {
        promise(20, "A relation holds of the objects a and b if ..");
        for (int n : WORLDS) {
            for (int pairs = 0; pairs < 512; pairs++) {
                if (!fits(n, pairs)) continue;
                for (int relation : RELATIONS) relationInText(n, relation, pairs);
            }
        }
    }

    private static void relationInText(int n, int relation, int pairs) {
        DiscourseContexts d = withPairs(n, relation, pairs);
        accept(d, "Ez&Ex&" + NAMES_OF_RELATIONS[relation] + "zx");
        for (int one = 1; one <= everybody(n); one++) {
            for (int other = 1; other <= everybody(n); other++) {
                String call = "together(2, " + one + ", 0, " + other + ") of " + n + ", pairs " + pairs;
                due(call, d.together(2, one, 0, other), related(pairs, one, other) ? 1 : 0);
            }
        }
    }
}
