/**
 * The sections "What it is" and "Terms", from their first sentence to their last: a test for each sentence
 * that says what a call answers. "Texts" and "Meaning" stand in TermsOfTextsTests and TermsOfMeaningTests,
 * "The public face" (and that all numbers are whole: all are of the type int) in FaceTests.
 */
public final class TermsTests extends Checks {
    private static final char[] NAMES_OF_PREDICATES = {'p', 'q', 'r'};
    private static final char[] NAMES_OF_RELATIONS = {'s', 't'};
    private static final char[] NAMES_OF_VARIABLES = {'x', 'y', 'z'};

    public static void main(String[] arguments) {
        pluralObjectsInADiscourse();
        fiveHundredAndTwelveCalls();
        aSmallWorldAndAContext();
        accessibleAccommodatedAndCounted();

        individualsFromZero();
        objectsAreSetsOfIndividuals();
        threePredicatesAndTwoRelations();
        predicatesHold();
        relationsHold();

        threeVariables();
        knownVariablesAndAssignments();
        aSetOfAssignments();
        theFirstContext();

        partByPart();
        formulasTurnTheContext();
        presuppositionsTurnTheContext();
        accommodatedParts();
        presuppositionsFail();

        aHistoryOfFiveStates();
        aStateIsEverythingElse();
        actionsRecordTheStateAhead();
        theSixthDropsTheOldest();
        undoRestoresTheLatest();

        errorsChangeNothing();
        theFirstErrorOfSeveral();
        theConstantsAndWhenTheyAreDue();
        questionsTakeNoPresuppositions();
        finish();
    }

    // ---- what it is

    private static void pluralObjectsInADiscourse() {
        sentence("What it is", "A model of discourse in dynamic predicate logic with plural objects.");
        DiscourseContexts d = new DiscourseContexts();
        due("accept() of Ex;#2x, the x of the part ahead", accept(d, "Ex;#2x"), 1);
        due("objects(0), both individuals", d.objects(0), 1 << 3);
        due("accept() of Ey;y<x;#1y, the x of the text ahead", accept(d, "Ey;y<x;#1y"), 2);
        due("objects(1)", d.objects(1), 1 << 1 | 1 << 2);
    }

    /** Each method of the face. */
    private static final Call[] METHODS = {
        d -> d.setIndividuals(3), d -> d.setPredicate(0, 1), d -> d.setPair(0, 0, 1, 0), DiscourseContexts::individuals,
        d -> d.predicate(0), d -> d.relationHolds(0, 1, 2), d -> d.type('x'), DiscourseContexts::clearText,
        DiscourseContexts::syntaxFault, DiscourseContexts::unknownVariable, DiscourseContexts::unknownDepth,
        DiscourseContexts::partCount, DiscourseContexts::contextSize, DiscourseContexts::known, d -> d.objects(1),
        d -> d.together(0, 1, 1, 3), DiscourseContexts::resetContext, d -> d.setAccommodation(0), DiscourseContexts::accept,
        DiscourseContexts::acceptable, DiscourseContexts::failingAt, DiscourseContexts::accommodated,
        d -> d.accommodatedPart(0), d -> d.sizeBehind(2), DiscourseContexts::supports, DiscourseContexts::worldsTrue,
        DiscourseContexts::historySize, DiscourseContexts::undo};

    /** An object in the state of lived(2), of which lastCalls more calls have been made; the last six of them leave it as the first six do. */
    private static DiscourseContexts called(Call call, int lastCalls) {
        DiscourseContexts d = lived(2);
        for (int i = 0; i < lastCalls; i++) call.on(d);
        return d;
    }

    private static void fiveHundredAndTwelveCalls() {
        sentence("What it is", "An object is used for at most 512 calls after it has been made");
        int callsOfLived = 5 + 1 + "Ex;[qx];Ey".length() + 1;
        int callsAhead = 511 - callsOfLived;
        for (Call last : METHODS) {
            for (Call often : new Call[] {DiscourseContexts::contextSize, d -> d.setAccommodation(1), DiscourseContexts::accept}) {
                due("the 512th call", last.on(called(often, callsAhead)), last.on(called(often, 6)));
            }
        }
    }

    // ---- terms

    private static void aSmallWorldAndAContext() {
        sentence("Terms", "A small world has individuals, predicates and relations; a context has known variables and assignments; "
            + "texts are formulas that change the context.");
        DiscourseContexts d = new DiscourseContexts();
        d.setPredicate(1, 2);
        d.setPair(1, 1, 0, 1);
        due("individuals()", d.individuals(), 2);
        due("predicate(1)", d.predicate(1), 2);
        due("relationHolds(1, 2, 1)", d.relationHolds(1, 2, 1), 1);
        due("contextSize() ahead of the text", d.contextSize(), 1);
        due("known() ahead of the text", d.known(), 0);
        due("accept() of Ez&qz&Ex&tzx", accept(d, "Ez&qz&Ex&tzx"), 1);
        due("contextSize() behind the text", d.contextSize(), 1);
        due("known() behind the text", d.known(), 5);
        due("together(2, 2, 0, 1)", d.together(2, 2, 0, 1), 1);
    }

    private static void accessibleAccommodatedAndCounted() {
        sentence("Terms", "It tells which variables are accessible, accommodates presuppositions, and counts the worlds in which a text is true.");
        DiscourseContexts d = new DiscourseContexts();
        due("unknownVariable() of Ex&px", write(d, "Ex&px").unknownVariable(), NONE);
        due("unknownVariable() of !Ex&px", write(d, "!Ex&px").unknownVariable(), 5);
        d.setPredicate(0, 2);
        d.setAccommodation(1);
        due("accept() of Ex;[px]", accept(d, "Ex;[px]"), 1);
        due("accommodated()", d.accommodated(), 1);
        due("worldsTrue() of Ex;[px], all sets of p but the empty one", d.worldsTrue(), 12);
    }

    // ---- world

    private static void individualsFromZero() {
        sentence("World", "There are n individuals, numbered from 0; n is 1 to 3, 2 at first.");
        due("individuals()", new DiscourseContexts().individuals(), 2);
        due("setIndividuals(0)", new DiscourseContexts().setIndividuals(0), INVALID);
        due("setIndividuals(4)", new DiscourseContexts().setIndividuals(4), INVALID);
        for (int n : WORLDS) {
            DiscourseContexts d = new DiscourseContexts();
            due("setIndividuals(" + n + ")", d.setIndividuals(n), 2);
            due("individuals()", d.individuals(), n);
            for (int individual = -2; individual <= 5; individual++) {
                boolean exists = individual >= 0 && individual < n;
                due("setPair(0, " + individual + ", 0, 0) of " + n, d.setPair(0, individual, 0, 0), exists ? 0 : INVALID);
                due("setPair(0, 0, " + individual + ", 0) of " + n, d.setPair(0, 0, individual, 0), exists ? 0 : INVALID);
            }
        }
    }

    private static void objectsAreSetsOfIndividuals() {
        sentence("World", "An object is a set of individuals that is not empty, written as a number whose bit i is 1 if the individual i is in it; "
            + "so objects are 1 to 2 to the power of n, less 1.");
        for (int n : WORLDS) {
            DiscourseContexts d = world(n);
            for (int object = -2; object <= 10; object++) {
                int want = object >= 1 && object < 1 << n ? 0 : INVALID;
                due("relationHolds(0, " + object + ", 1) of " + n, d.relationHolds(0, object, 1), want);
                due("relationHolds(0, 1, " + object + ") of " + n, d.relationHolds(0, 1, object), want);
                due("together(0, " + object + ", 0, 1) of " + n, d.together(0, object, 0, 1), want == 0 ? NONE : INVALID);
                due("together(0, 1, 0, " + object + ") of " + n, d.together(0, 1, 0, object), want == 0 ? NONE : INVALID);
            }
            for (int individual = 0; individual < n; individual++) individualInObjects(n, individual);
            accept(d, "Ex");
            due("objects(0) of " + n, d.objects(0), n == 1 ? 2 : n == 2 ? 14 : 254);
        }
    }

    /** The objects that have an individual are those in which its object, the number with that bit alone, is. */
    private static void individualInObjects(int n, int individual) {
        DiscourseContexts d = world(n);
        d.setPredicate(0, 1 << individual);
        accept(d, "Ex&px");
        due("objects(0) of the individual " + individual, d.objects(0), 1 << (1 << individual));
        accept(d, "Ey&x<y");
        int having = 0;
        for (int object = 1; object < 1 << n; object++) having |= (object >> individual & 1) << object;
        due("objects(1), those that have the individual " + individual, d.objects(1), having);
    }

    private static void threePredicatesAndTwoRelations() {
        sentence("World", "There are three predicates, p, q and r (numbered 0, 1, 2), each of which has a set of individuals, empty at first, "
            + "and two relations, s and t (0, 1), each of which has a set of pairs of individuals, empty at first.");
        for (int number = -2; number <= 4; number++) {
            due("predicate(" + number + ")", new DiscourseContexts().predicate(number), number >= 0 && number <= 2 ? 0 : INVALID);
            due("relationHolds(" + number + ", 1, 1)", new DiscourseContexts().relationHolds(number, 1, 1), number == 0 || number == 1 ? 0 : INVALID);
        }
        for (int n : WORLDS) {
            for (int number : PREDICATES) {
                for (int named : PREDICATES) {
                    DiscourseContexts d = world(n);
                    d.setPredicate(number, 1);
                    String text = "Ex&" + NAMES_OF_PREDICATES[named] + "x";
                    due("accept() of " + text + ", the set of " + number + " has one", accept(d, text), named == number ? 1 : 0);
                }
            }
            for (int number : RELATIONS) {
                for (int named : RELATIONS) {
                    DiscourseContexts d = world(n);
                    d.setPair(number, 0, n - 1, 1);
                    String text = "Ex&Ey&" + NAMES_OF_RELATIONS[named] + "xy";
                    due("accept() of " + text + ", the set of " + number + " has one", accept(d, text), named == number ? 1 : 0);
                }
            }
        }
    }

    private static void predicatesHold() {
        sentence("World", "A predicate holds of an object if all individuals of the object are in its set.");
        for (int n : WORLDS) {
            for (int predicate : PREDICATES) {
                for (int set = 0; set < 1 << n; set++) {
                    DiscourseContexts d = world(n);
                    d.setPredicate(predicate, set);
                    accept(d, "Ex&" + NAMES_OF_PREDICATES[predicate] + "x");
                    for (int object = 1; object < 1 << n; object++) {
                        boolean all = true;
                        for (int i = 0; i < n; i++) all &= (object >> i & 1) == 0 || (set >> i & 1) == 1;
                        due("together(0, " + object + ", ..), the set is " + set, d.together(0, object, 0, object), all ? 1 : 0);
                    }
                }
            }
        }
    }

    private static void relationsHold() {
        sentence("World", "A relation holds of the objects a and b if for each individual i of a there is an individual j of b, "
            + "and for each individual j of b there is an individual i of a, such that the pair (i, j) is in its set.");
        for (int n : WORLDS) {
            for (int pairs = 0; pairs < 1 << n * n; pairs++) {
                DiscourseContexts d = world(n);
                int relation = pairs % 2;
                for (int pair = 0; pair < n * n; pair++) {
                    if ((pairs >> pair & 1) == 1) d.setPair(relation, pair / n, pair % n, 1);
                }
                accept(d, "Ex&Ey&" + NAMES_OF_RELATIONS[relation] + "xy");
                for (int a = 1; a < 1 << n; a++) {
                    for (int b = 1; b < 1 << n; b++) {
                        int want = reach(n, pairs, a, b) && reached(n, pairs, a, b) ? 1 : 0;
                        due("relationHolds(.., " + a + ", " + b + "), the set is " + pairs, d.relationHolds(relation, a, b), want);
                        due("together(0, " + a + ", 1, " + b + "), the set is " + pairs, d.together(0, a, 1, b), want);
                    }
                }
            }
        }
    }

    /** Whether each individual of a has one of b; bit n * i + j of pairs is the pair (i, j). */
    private static boolean reach(int n, int pairs, int a, int b) {
        for (int i = 0; i < n; i++) {
            if ((a >> i & 1) == 1 && (pairs >> n * i & b) == 0) return false;
        }
        return true;
    }

    private static boolean reached(int n, int pairs, int a, int b) {
        for (int j = 0; j < n; j++) {
            boolean one = (b >> j & 1) == 0;
            for (int i = 0; i < n; i++) one |= (a >> i & 1) == 1 && (pairs >> n * i + j & 1) == 1;
            if (!one) return false;
        }
        return true;
    }

    // ---- context

    private static void threeVariables() {
        sentence("Context", "There are three variables, x, y and z (numbered 0 to 2).");
        for (int number = -2; number <= 4; number++) {
            boolean exists = number >= 0 && number <= 2;
            due("objects(" + number + ")", new DiscourseContexts().objects(number), exists ? NONE : INVALID);
            due("together(" + number + ", 1, 0, 1)", new DiscourseContexts().together(number, 1, 0, 1), exists ? NONE : INVALID);
            due("together(0, 1, " + number + ", 1)", new DiscourseContexts().together(0, 1, number, 1), exists ? NONE : INVALID);
        }
        for (int named : VARIABLES) {
            DiscourseContexts d = knowing(3, "E" + NAMES_OF_VARIABLES[named] + ";#3" + NAMES_OF_VARIABLES[named]);
            due("known() behind E" + NAMES_OF_VARIABLES[named], d.known(), 1 << named);
            for (int number : VARIABLES) {
                due("objects(" + number + ") behind E" + NAMES_OF_VARIABLES[named], d.objects(number), number == named ? 1 << 7 : NONE);
                due("together(" + number + ", ..) behind E" + NAMES_OF_VARIABLES[named], d.together(number, 7, number, 7), number == named ? 1 : NONE);
            }
        }
        for (char c = 32; c <= 126; c++) {
            due("syntaxFault() of E" + c, written("E" + c).syntaxFault(), c == 'x' || c == 'y' || c == 'z' ? NONE : 1);
        }
    }

    private static void knownVariablesAndAssignments() {
        sentence("Context", "A context has a set of known variables, and a set of assignments, each of which gives an object to each known variable.");
        String[] texts = {"Ex", "Ey;Ez", "Ex;Ey;Ez", "Ex;Ey;x<y", "Ez;Ex;!(x=z)", "Ex;Ey;Ez;x<y;y<z;!(x=z)", "Ey&#1y", "Ex&!(x=x)"};
        for (int n : WORLDS) {
            for (String text : texts) {
                DiscourseContexts d = knowing(n, text);
                for (int variable : VARIABLES) {
                    boolean known = text.indexOf("E" + NAMES_OF_VARIABLES[variable]) >= 0;
                    due("the bit of " + variable + " of known() behind " + text, d.known() >> variable & 1, known ? 1 : 0);
                    if (known) eachGivesOneObject(text, n, d, variable);
                    else due("objects(" + variable + ") behind " + text, d.objects(variable), NONE);
                }
            }
        }
    }

    /** Each assignment is counted at one object of the variable. */
    private static void eachGivesOneObject(String text, int n, DiscourseContexts d, int variable) {
        int assignments = 0;
        int objects = 0;
        for (int object = 1; object < 1 << n; object++) {
            int many = d.together(variable, object, variable, object);
            assignments += many;
            objects |= many > 0 ? 1 << object : 0;
            for (int other = 1; other < 1 << n; other++) {
                if (other != object) due("together(" + variable + ", " + object + ", " + variable + ", " + other + ")", d.together(variable, object, variable, other), 0);
            }
        }
        due("the assignments of all objects behind " + text, assignments, d.contextSize());
        due("objects(" + variable + ") behind " + text, d.objects(variable), objects);
    }

    private static void aSetOfAssignments() {
        sentence("Context", "a set of assignments (so each of them is in it once)");
        for (int n : WORLDS) {
            int all = everybody(n);
            due("accept() of Ex;Ey;Ex", accept(world(n), "Ex;Ey;Ex"), all * all);
            due("accept() of Ex;Ey;Ez;Ex;Ey;Ez", accept(world(n), "Ex;Ey;Ez;Ex;Ey;Ez"), all * all * all);
            due("accept() of Ex;Ey;x=y;Ey;#1y;Ex", accept(world(n), "Ex;Ey;x=y;Ey;#1y;Ex"), n * all);
            due("accept() of Ex;Ex|Ex|Ex", accept(world(n), "Ex;Ex|Ex|Ex"), all);
            due("accept() of [Ex];[Ex]", accept(world(n), "[Ex];[Ex]"), all);
        }
    }

    private static void theFirstContext() {
        sentence("Context", "The first context has no known variables and one assignment, which gives nothing.");
        for (int n : WORLDS) {
            DiscourseContexts reset = knowing(n, "Ex;Ey;Ez");
            reset.resetContext();
            DiscourseContexts set = withoutAssignments(n);
            set.setIndividuals(n);
            for (DiscourseContexts d : new DiscourseContexts[] {new DiscourseContexts(), world(n), reset, set}) {
                due("known()", d.known(), 0);
                due("contextSize()", d.contextSize(), 1);
                for (int variable : VARIABLES) {
                    due("objects(" + variable + ")", d.objects(variable), NONE);
                    due("together(" + variable + ", ..)", d.together(variable, 1, variable, 1), NONE);
                }
                due("accept() of !!Ex, which the assignment has results for", accept(d, "!!Ex"), 1);
            }
        }
    }

    // ---- accepting

    private static void partByPart() {
        sentence("Accepting", "A text is accepted part by part, from left to right.");
        for (int n = 2; n <= 3; n++) {
            due("accept() of Ex;#1x;[#1x]", accept(world(n), "Ex;#1x;[#1x]"), n);
            due("accept() of Ex;[#1x];#1x", accept(world(n), "Ex;[#1x];#1x"), FAILS);
            due("accept() of Ex;#1x;Ex", accept(world(n), "Ex;#1x;Ex"), everybody(n));
            due("accept() of Ex;Ex;#1x", accept(world(n), "Ex;Ex;#1x"), n);
            due("accept() of Ex;Ey;x<y;Ex", accept(world(n), "Ex;Ey;x<y;Ex"), everybody(n) * everybody(n));
            DiscourseContexts d = write(world(n), "Ex;Ey;#1y;x=y;Ez");
            int[] sizes = {1, everybody(n), everybody(n) * everybody(n), n * everybody(n), n, n * everybody(n)};
            for (int parts = 0; parts < sizes.length; parts++) due("sizeBehind(" + parts + ")", d.sizeBehind(parts), sizes[parts]);
            due("accept() of all parts", d.accept(), sizes[5]);
            DiscourseContexts apart = world(n);
            for (String part : new String[] {"Ex", "Ey", "#1y", "x=y", "Ez"}) accept(apart, part);
            due("contextSize() behind the parts, each of them a text", apart.contextSize(), sizes[5]);
        }
    }

    private static void formulasTurnTheContext() {
        sentence("Accepting", "A part that is a formula turns the context into that of all its results.");
        for (int n : WORLDS) {
            DiscourseContexts d = world(n);
            due("accept() of Ey", accept(d, "Ey"), everybody(n));
            due("accept() of #1y", accept(d, "#1y"), n);
            due("objects(1)", d.objects(1), n == 1 ? 2 : n == 2 ? 6 : 22);
            due("accept() of Ex&x=y", accept(d, "Ex&x=y"), n);
            due("known()", d.known(), 3);
            due("together(0, 1, 1, 1)", d.together(0, 1, 1, 1), 1);
            due("accept() of !(x=y)", accept(d, "!(x=y)"), 0);
            due("contextSize()", d.contextSize(), 0);
            due("known()", d.known(), 3);
        }
    }

    /** How a text "Ex;[..]" is accepted: what accept(), accommodated() and failingAt() answer. */
    private static void presupposed(int n, int on, String text, int size, int accommodated) {
        DiscourseContexts d = world(n);
        d.setPredicate(0, 1);
        d.setAccommodation(on);
        String call = " of " + text + ", n is " + n + ", accommodation " + on;
        due("failingAt()" + call, write(d, text).failingAt(), size == FAILS ? text.indexOf('[') : NONE);
        due("acceptable()" + call, d.acceptable(), size);
        due("accept()" + call, d.accept(), size);
        due("contextSize() behind accept()" + call, d.contextSize(), size == FAILS ? 1 : size);
        due("known() behind accept()" + call, d.known() & 1, size == FAILS ? 0 : 1);
        due("accommodated() behind accept()" + call, d.accommodated(), accommodated);
        due("accommodatedPart(0) behind accept()" + call, d.accommodatedPart(0), accommodated == 0 ? NONE : 1);
    }

    private static void presuppositionsTurnTheContext() {
        sentence("Accepting", "A part in brackets is a presupposition: if the context supports its formula, or if the accommodation is on "
            + "(it is off at first) and the formula has results for the context, the context is turned into that of all its results");
        due("setAccommodation(0) of a new object", new DiscourseContexts().setAccommodation(0), 0);
        due("accept() of a new object", written("Ex;[#1x]").accept(), FAILS);
        for (int n : WORLDS) {
            for (int on : SWITCHES) {
                presupposed(n, on, "Ex;[x=x]", everybody(n), 0);
                presupposed(n, on, "Ex;[Ey]", everybody(n) * everybody(n), 0);
                presupposed(n, on, "Ex;[Ey&y=x&Ez]", everybody(n) * everybody(n), 0);
                presupposed(n, on, "Ex&px;[px]", 1, 0);
                // Each assignment has results, though none is one of them.
                presupposed(n, on, "Ex&#1x;[Ex&px]", 1, 0);
                // A context without assignments supports each formula.
                presupposed(n, on, "Ex&!(x=x);[px]", 0, 0);
            }
        }
        for (int n = 2; n <= 3; n++) {
            presupposed(n, 1, "Ex;[px]", 1, 1);
            presupposed(n, 1, "Ex;[#1x]", n, 1);
            presupposed(n, 1, "Ex;[!px&Ey]", (everybody(n) - 1) * everybody(n), 1);
        }
    }

    private static void accommodatedParts() {
        sentence("Accepting", "in the second case, if the context does not support the formula, the part is accommodated.");
        for (int n = 2; n <= 3; n++) {
            presupposed(n, 1, "Ex;[px]", 1, 1);
            presupposed(n, 1, "Ex;[px|!px]", everybody(n), 0);
            presupposed(n, 1, "Ex;[Ex&px]", 1, 0);
            presupposed(n, 1, "Ex;[!px]", everybody(n) - 1, 1);
            DiscourseContexts d = world(n);
            d.setPredicate(0, 1);
            d.setAccommodation(1);
            accept(d, "[Ex];[#1x];[#1x];Ey;[py];[px&py];[x=y]");
            due("accommodated()", d.accommodated(), 3);
            int[] parts = {1, 4, 5, NONE};
            for (int index = 0; index < parts.length; index++) due("accommodatedPart(" + index + ")", d.accommodatedPart(index), parts[index]);
        }
    }

    private static void presuppositionsFail() {
        sentence("Accepting", "Otherwise the presupposition fails, and the text is not accepted.");
        for (int n : WORLDS) {
            for (int on : SWITCHES) {
                presupposed(n, on, "Ex;[!(x=x)]", FAILS, 0);
                presupposed(n, on, "Ex;[Ey&!(x=x)]", FAILS, 0);
                presupposed(n, on, "Ex;px;[!px];Ey", FAILS, 0);
                presupposed(n, on, "[!Ex];Ex", FAILS, 0);
            }
            if (n > 1) presupposed(n, 0, "Ex;[px]", FAILS, 0);
            if (n > 1) presupposed(n, 0, "Ex;[#1x];px", FAILS, 0);
            refused("accept() of Ex;Ey;[!(x=x)]", () -> write(lived(n), "Ex;Ey;[!(x=x)]"), DiscourseContexts::accept, FAILS);
        }
    }

    // ---- undo

    /** Each action, with arguments for which it succeeds behind the text Ez. */
    private static final Call[] ACTIONS = {
        d -> d.setIndividuals(3), d -> d.setPredicate(2, 1), d -> d.setPair(1, 0, 0, 1), DiscourseContexts::resetContext,
        d -> d.setAccommodation(0), d -> d.setAccommodation(1), DiscourseContexts::accept};

    private static void aHistoryOfFiveStates() {
        sentence("Undo", "A history of at most 5 states is kept");
        for (Call action : ACTIONS) {
            DiscourseContexts d = written("Ez");
            due("historySize()", d.historySize(), 0);
            for (int actions = 1; actions <= 8; actions++) {
                action.on(d);
                due("historySize() behind " + actions + " actions", d.historySize(), Math.min(actions, 5));
            }
            for (int left = 4; left >= 0; left--) due("undo()", d.undo(), left);
            due("undo() of the empty history", d.undo(), ILLEGAL);
        }
    }

    private static void aStateIsEverythingElse() {
        sentence("Undo", "a state is everything but the text and the history.");
        for (int n : WORLDS) {
            for (Call action : ACTIONS) {
                Made written = () -> write(lived(n), "Ez");
                acted("an action", written, action, action.on(written.make()));
                DiscourseContexts d = written.make();
                action.on(d);
                write(d, "Ez;[rz]");
                due("undo()", d.undo(), 4);
                due("clearText() behind undo()", d.clearText(), 7);
            }
        }
    }

    private static void actionsRecordTheStateAhead() {
        sentence("Undo", "Every successful call of a method that is called an action records the state before it (also if nothing changes by it)");
        Call[] nothingChanges = {
            d -> d.setIndividuals(2), d -> d.setPredicate(2, 0), d -> d.setPair(1, 1, 0, 0), DiscourseContexts::resetContext,
            d -> d.setAccommodation(0), DiscourseContexts::accept};
        int[] answers = {2, 0, 0, 1, 0, 1};
        for (int i = 0; i < nothingChanges.length; i++) {
            acted("action " + i + " by which nothing changes", () -> written("!!Ez"), nothingChanges[i], answers[i]);
        }
        Call[] refused = {
            d -> d.setIndividuals(4), d -> d.setPredicate(2, 8), d -> d.setPair(2, 0, 0, 0), d -> d.setAccommodation(2), DiscourseContexts::accept};
        for (Call call : refused) {
            DiscourseContexts d = written("[!Ez]");
            due("the call is refused (1)", call.on(d) < 0 ? 1 : 0, 1);
            due("historySize() behind it", d.historySize(), 0);
        }
        Call[] noActions = {
            d -> d.type('x'), DiscourseContexts::clearText, DiscourseContexts::acceptable, DiscourseContexts::worldsTrue,
            DiscourseContexts::supports, d -> d.sizeBehind(1), DiscourseContexts::undo};
        for (Call call : noActions) {
            DiscourseContexts d = written("Ez");
            d.resetContext();
            d.resetContext();
            call.on(d);
            due("historySize() behind a call that is no action (2 at most)", Math.max(d.historySize(), 2), 2);
        }
    }

    private static void theSixthDropsTheOldest() {
        sentence("Undo", "when a sixth one is recorded, the oldest one is dropped.");
        for (int actions = 1; actions <= 9; actions++) {
            DiscourseContexts d = world(3);
            d.undo();
            for (int set = 1; set <= actions; set++) d.setPredicate(0, set % 4);
            int kept = Math.min(actions, 5);
            for (int undone = 1; undone <= kept; undone++) {
                due("undo() behind " + actions + " actions", d.undo(), kept - undone);
                due("predicate(0) behind it", d.predicate(0), (actions - undone) % 4);
            }
            due("undo() of the empty history", d.undo(), ILLEGAL);
        }
    }

    private static void undoRestoresTheLatest() {
        sentence("Undo", "undo() removes the latest state from the history and restores it.");
        DiscourseContexts d = new DiscourseContexts();
        d.setPredicate(0, 1);
        accept(d, "Ex&px");
        d.setPredicate(0, 2);
        due("undo()", d.undo(), 2);
        due("predicate(0)", d.predicate(0), 1);
        due("known()", d.known(), 1);
        d.setPair(0, 1, 1, 1);
        due("historySize()", d.historySize(), 3);
        due("undo()", d.undo(), 2);
        due("relationHolds(0, 2, 2)", d.relationHolds(0, 2, 2), 0);
        due("undo()", d.undo(), 1);
        due("known()", d.known(), 0);
        due("predicate(0)", d.predicate(0), 1);
        due("undo()", d.undo(), 0);
        due("predicate(0)", d.predicate(0), 0);
        due("historySize()", d.historySize(), 0);
    }

    // ---- errors

    private static void errorsChangeNothing() {
        sentence("Errors", "A call that returns an error code changes nothing.");
        for (int n : WORLDS) {
            refusedEverywhere(n, "Ex", INVALID, d -> d.setIndividuals(0), d -> d.setPredicate(0, 1 << n), d -> d.setPair(0, n, 0, 1),
                d -> d.predicate(3), d -> d.relationHolds(2, 1, 1), d -> d.type(127), d -> d.objects(3), d -> d.together(0, 0, 0, 1),
                d -> d.setAccommodation(2), d -> d.accommodatedPart(-1), d -> d.sizeBehind(-1));
            refusedEverywhere(n, "Ex)", SYNTAX, DiscourseContexts::unknownVariable, DiscourseContexts::unknownDepth,
                DiscourseContexts::partCount, DiscourseContexts::accept, DiscourseContexts::acceptable, DiscourseContexts::failingAt,
                d -> d.sizeBehind(0), DiscourseContexts::supports, DiscourseContexts::worldsTrue);
            refusedEverywhere(n, "Ex;pz", UNKNOWN, DiscourseContexts::accept, DiscourseContexts::acceptable,
                DiscourseContexts::failingAt, d -> d.sizeBehind(0), DiscourseContexts::supports, DiscourseContexts::worldsTrue);
            refusedEverywhere(n, "Ez;[!(z=z)]", FAILS, DiscourseContexts::accept, DiscourseContexts::acceptable);
            refusedEverywhere(n, TWENTY_PARTS + "|", FULL, d -> d.type('E'));
            refusedEverywhere(n, "Ex", NONE, DiscourseContexts::syntaxFault, DiscourseContexts::unknownVariable,
                DiscourseContexts::unknownDepth, d -> d.objects(2), d -> d.together(0, 1, 2, 1), DiscourseContexts::failingAt,
                d -> d.accommodatedPart(1), d -> d.sizeBehind(2));
        }
        refused("undo()", () -> written("Ex"), DiscourseContexts::undo, ILLEGAL);
    }

    private static void refusedEverywhere(int n, String text, int error, Call... calls) {
        for (Call call : calls) {
            refused("a call behind " + text + ", n is " + n, () -> write(world(n), text), call, error);
            refused("a call behind " + text + ", full history, n is " + n, () -> write(lived(n), text), call, error);
        }
    }

    private static void theFirstErrorOfSeveral() {
        sentence("Errors", "If several error conditions apply, the method returns the one that its description lists first.");
        for (int n : WORLDS) {
            String full = TWENTY_PARTS + "|";
            due("type(127) into a full text", write(world(n), full).type(127), INVALID);
            due("together(0, 0, 0, 1), x not known", world(n).together(0, 0, 0, 1), INVALID);
            due("together(0, 1, 3, 1), x not known", world(n).together(0, 1, 3, 1), INVALID);
            due("sizeBehind(-1) of a fault", write(world(n), "px)").sizeBehind(-1), INVALID);
            due("sizeBehind(-1) of an unknown variable", write(world(n), "px").sizeBehind(-1), INVALID);
            due("sizeBehind(9) of a fault", write(world(n), "Ex)").sizeBehind(9), SYNTAX);
            due("sizeBehind(9) of an unknown variable", write(world(n), "px").sizeBehind(9), UNKNOWN);
            // A fault, an unknown variable and a presupposition that fails; then without the fault.
            String all = "[!Ex];px;";
            for (Call call : new Call[] {DiscourseContexts::accept, DiscourseContexts::acceptable, DiscourseContexts::failingAt,
                d -> d.sizeBehind(1), DiscourseContexts::supports, DiscourseContexts::worldsTrue}) {
                due("a call behind " + all, call.on(write(world(n), all)), SYNTAX);
                due("a call behind " + all + "Ex", call.on(write(world(n), all + "Ex")), UNKNOWN);
            }
            due("unknownVariable() of " + all, write(world(n), all).unknownVariable(), SYNTAX);
            due("unknownDepth() of " + all, write(world(n), all).unknownDepth(), SYNTAX);
        }
    }

    private static void theConstantsAndWhenTheyAreDue() {
        sentence("Errors", "`INVALID_ARGUMENT = -1`: An argument is out of range.");
        due("INVALID_ARGUMENT", DiscourseContexts.INVALID_ARGUMENT, -1);
        due("setPredicate(3, 0)", new DiscourseContexts().setPredicate(3, 0), -1);
        sentence("Errors", "`SYNTAX_FAULT = -2`: The text has a syntax fault.");
        due("SYNTAX_FAULT", DiscourseContexts.SYNTAX_FAULT, -2);
        due("supports() of the empty text", new DiscourseContexts().supports(), -2);
        sentence("Errors", "`UNKNOWN_VARIABLE = -3`: A variable of the text is unknown.");
        due("UNKNOWN_VARIABLE", DiscourseContexts.UNKNOWN_VARIABLE, -3);
        due("supports() of px", written("px").supports(), -3);
        sentence("Errors", "`PRESUPPOSITION_FAILS = -4`: A presupposition fails.");
        due("PRESUPPOSITION_FAILS", DiscourseContexts.PRESUPPOSITION_FAILS, -4);
        due("accept() of [!Ex]", written("[!Ex]").accept(), -4);
        sentence("Errors", "`CAPACITY_EXCEEDED = -5`: There is no room.");
        due("CAPACITY_EXCEEDED", DiscourseContexts.CAPACITY_EXCEEDED, -5);
        due("type('x') into a full text", written(TWENTY_PARTS + "|").type('x'), -5);
        sentence("Errors", "`ILLEGAL_STATE = -6`: The call is not possible in the present state.");
        due("ILLEGAL_STATE", DiscourseContexts.ILLEGAL_STATE, -6);
        due("undo() of the empty history", new DiscourseContexts().undo(), -6);
        sentence("Errors", "`NONE = -7`: There is no such value.");
        due("NONE", DiscourseContexts.NONE, -7);
        due("objects(0) of the first context", new DiscourseContexts().objects(0), -7);
    }

    private static void questionsTakeNoPresuppositions() {
        sentence("Errors", "questions, in which presuppositions are taken as formulas without brackets.");
        String[] texts = {"[Ex]", "Ex;[px]", "Ex;[px];[!px]", "[Ex&px];[qx]", "Ex;[px>qx];[#1x]", "[!Ex]", "Ex;[Ey&x<y];[qy|py]"};
        for (int n : WORLDS) {
            for (int on : SWITCHES) {
                for (String text : texts) {
                    String bare = text.replace("[", "").replace("]", "");
                    Made made = () -> {
                        DiscourseContexts d = world(n);
                        d.setPredicate(0, 1);
                        d.setPredicate(1, everybody(n));
                        d.setAccommodation(on);
                        return d;
                    };
                    for (int parts = 0; parts <= 4; parts++) {
                        due("sizeBehind(" + parts + ") of " + text, write(made.make(), text).sizeBehind(parts), write(made.make(), bare).sizeBehind(parts));
                    }
                    due("supports() of " + text, write(made.make(), text).supports(), write(made.make(), bare).supports());
                    due("worldsTrue() of " + text, write(made.make(), text).worldsTrue(), write(made.make(), bare).worldsTrue());
                }
            }
        }
        due("sizeBehind(2) of Ex;[#1x]", written("Ex;[#1x]").sizeBehind(2), 2);
        due("supports() of Ex;[#1x]", written("Ex;[#1x]").supports(), 1);
        due("worldsTrue() of Ex;[px]", written("Ex;[px]").worldsTrue(), 12);
    }
}
