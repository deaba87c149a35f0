import java.util.ArrayList;
import java.util.List;

/**
 * The section "Meaning", sentence by sentence. Contexts are compared with the condition that their assignments
 * should fulfil, assignment by assignment.
 */
public final class TermsOfMeaningTests extends Checks {
    /** Whether an assignment, the objects of x, y and z, is in a set; n is the number of individuals. */
    private interface Condition {
        boolean holds(int n, int[] assignment);
    }

    /** A text that leaves assignments as they are, and the condition of those that it has results for. */
    private record Test(String text, Condition condition) {
    }

    private static final int X = 0;
    private static final int Y = 1;
    private static final int Z = 2;
    /** Bit 3 * i + j stands for the pair (i, j). */
    private static final int[] PAIRS = {0b101_010_011, 0b010_110_001};

    private static long seed = 1119;

    public static void main(String[] arguments) {
        resultsOfAnAssignment();
        everyObject();
        predicatesAndRelations();
        equalObjects();
        objectsWithinObjects();
        numbersOfIndividuals();
        rows();
        negations();
        choices();
        conditions();
        signsBesideSigns();
        resultsOfAContext();
        supportedFormulas();

        knownFromLeftToRight();
        knownAheadOfTheText();
        knownFromThereOn();
        partsAndUnitsOneAfterTheOther();
        knownAheadOfTheFormulaBehind();
        knownAheadOfEachRow();
        knownBehindScopes();
        unknownVariables();
        textsThatWereMade();
        finish();
    }

    private static int next(int bound) {
        seed = seed * 6364136223846793005L + 1442695040888963407L;
        return (int) ((seed >>> 33) % bound);
    }

    // ---- conditions

    private static Condition not(Condition a) {
        return (n, g) -> !a.holds(n, g);
    }

    private static Condition both(Condition a, Condition b) {
        return (n, g) -> a.holds(n, g) && b.holds(n, g);
    }

    private static Condition either(Condition a, Condition b) {
        return (n, g) -> a.holds(n, g) || b.holds(n, g);
    }

    private static Condition ifThen(Condition a, Condition b) {
        return (n, g) -> !a.holds(n, g) || b.holds(n, g);
    }

    /** With some object for the variable in place of the one that the assignment gives it. */
    private static Condition some(int variable, Condition a) {
        return (n, g) -> {
            boolean some = false;
            for (int object = 1; object <= everybody(n); object++) {
                int[] changed = g.clone();
                changed[variable] = object;
                some |= a.holds(n, changed);
            }
            return some;
        };
    }

    private static Condition every(int variable, Condition a) {
        return not(some(variable, not(a)));
    }

    // ---- worlds and contexts

    private static int setOf(int n, int predicate) {
        int[] sets = {3, 6, 1 << n - 1};
        return sets[predicate] & everybody(n);
    }

    private static boolean related(int relation, int one, int other) {
        int reaching = 0;
        int reached = 0;
        for (int pair = 0; pair < 9; pair++) {
            boolean between = (one >> pair / 3 & 1) == 1 && (other >> pair % 3 & 1) == 1;
            if (between && (PAIRS[relation] >> pair & 1) == 1) {
                reaching |= 1 << pair / 3;
                reached |= 1 << pair % 3;
            }
        }
        return reaching == one && reached == other;
    }

    /** A world with sets of all kinds, and the context in which each variable of a set of them can have each object. */
    private static DiscourseContexts furnished(int n, int known) {
        DiscourseContexts d = world(n);
        for (int predicate : PREDICATES) d.setPredicate(predicate, setOf(n, predicate));
        for (int relation : RELATIONS) {
            for (int pair = 0; pair < 9; pair++) {
                if (pair / 3 < n && pair % 3 < n) d.setPair(relation, pair / 3, pair % 3, PAIRS[relation] >> pair & 1);
            }
        }
        for (int v : VARIABLES) {
            if ((known >> v & 1) == 1) accept(d, "E" + name(v));
        }
        return d;
    }

    /** All assignments that give objects to the variables of a set, and 0 to the others. */
    private static List<int[]> assignments(int n, int known) {
        List<int[]> assignments = new ArrayList<>();
        for (int number = 0; number < 512; number++) {
            int[] g = {number & 7, number >> 3 & 7, number >> 6};
            boolean exists = true;
            for (int v : VARIABLES) exists &= (known >> v & 1) == 1 ? g[v] >= 1 && g[v] <= everybody(n) : g[v] == 0;
            if (exists) assignments.add(g);
        }
        return assignments;
    }

    /** Accepts the texts, one behind the other, in each context in which their variables are known, and compares it with the condition. */
    private static void context(Condition condition, String... texts) {
        String together = String.join(", ", texts);
        for (int known = 1; known < 8; known++) {
            boolean enough = true;
            for (int v : VARIABLES) enough &= together.indexOf(name(v)) < 0 || (known >> v & 1) == 1;
            for (int n = 1; enough && n <= 3; n++) {
                DiscourseContexts d = furnished(n, known);
                for (String text : texts) accept(d, text);
                compare(together + ", n is " + n, n, known, d, condition);
            }
        }
    }

    private static void compare(String texts, int n, int known, DiscourseContexts d, Condition condition) {
        int size = 0;
        int[][] counts = new int[3][64];
        for (int[] g : assignments(n, known)) {
            if (!condition.holds(n, g)) continue;
            size++;
            for (int v : VARIABLES) counts[v][8 * g[v] + g[(v + 1) % 3]]++;
        }
        due("known() behind " + texts, d.known(), known);
        due("contextSize() behind " + texts, d.contextSize(), size);
        for (int v : VARIABLES) {
            int u = (v + 1) % 3;
            boolean bothKnown = (known >> v & known >> u & 1) == 1;
            for (int one = 1; one <= everybody(n); one++) {
                for (int other = 1; other <= everybody(n); other++) {
                    due("together(" + v + ", " + one + ", " + u + ", " + other + ") behind " + texts,
                        d.together(v, one, u, other), bothKnown ? counts[v][8 * one + other] : NONE);
                }
            }
        }
    }

    private static char name(int variable) {
        return (char) ('x' + variable);
    }

    // ---- units

    private static void resultsOfAnAssignment() {
        sentence("Meaning", "A formula turns an assignment into a set of assignments, its results");
        for (int n : WORLDS) {
            due("accept() of Ex, from one assignment", accept(world(n), "Ex"), everybody(n));
            due("accept() of Ex&Ey, from one assignment", accept(world(n), "Ex&Ey"), everybody(n) * everybody(n));
            due("accept() of Ex&#" + n + "x, from one assignment", accept(world(n), "Ex&#" + n + "x"), 1);
            due("accept() of !!Ex, from one assignment", accept(world(n), "!!Ex"), 1);
            due("accept() of !Ex, from one assignment", accept(world(n), "!Ex"), 0);
        }
    }

    private static void everyObject() {
        sentence("Meaning", "E v: all assignments that give v some object (any one), and give all other known variables what the assignment gives them.");
        Test[] ahead = {
            new Test("x<y&y<z", (n, g) -> (g[X] & ~g[Y]) == 0 && (g[Y] & ~g[Z]) == 0),
            new Test("x=y&#1z", (n, g) -> g[X] == g[Y] && Integer.bitCount(g[Z]) == 1),
            new Test("!(x=y)&!(y=z)", (n, g) -> g[X] != g[Y] && g[Y] != g[Z]),
            new Test("x=x", (n, g) -> true),
            new Test("!(x=x)", (n, g) -> false)};
        for (int v : VARIABLES) {
            for (Test test : ahead) {
                context(some(v, test.condition), test.text, "E" + name(v));
                context(some(v, test.condition), test.text + "&E" + name(v));
                for (int u : VARIABLES) context(some(u, some(v, test.condition)), test.text + "&E" + name(v) + "&E" + name(u));
            }
            // Where each object is ruled out there are no results.
            context((n, g) -> true, "!(E" + name(v) + "&!" + name(v) + "=" + name(v) + ")");
            context((n, g) -> false, "!" + name(v) + "=" + name(v), "E" + name(v));
            for (int n : WORLDS) {
                DiscourseContexts d = knowing(n, "E" + name(v));
                due("contextSize() behind E" + name(v), d.contextSize(), everybody(n));
                due("objects(" + v + ") behind E" + name(v), d.objects(v), (1 << everybody(n) + 1) - 2);
            }
        }
    }

    private static void predicatesAndRelations() {
        sentence("Meaning", "p v, s v u, and so on: the assignment itself if the predicate or relation holds of the objects of the variables, otherwise none.");
        for (int v : VARIABLES) {
            for (int predicate : PREDICATES) {
                context((n, g) -> (g[v] & ~setOf(n, predicate)) == 0, "" + "pqr".charAt(predicate) + name(v));
            }
            for (int u : VARIABLES) {
                for (int relation : RELATIONS) {
                    context((n, g) -> related(relation, g[v], g[u]), "" + "st".charAt(relation) + name(v) + name(u));
                }
            }
        }
    }

    private static void equalObjects() {
        sentence("Meaning", "v = u: itself if both objects are equal. Otherwise none.");
        for (int v : VARIABLES) {
            for (int u : VARIABLES) context((n, g) -> g[v] == g[u], name(v) + "=" + name(u));
        }
    }

    private static void objectsWithinObjects() {
        sentence("Meaning", "v < u: itself if each individual of the object of v is in that of u. Otherwise none.");
        for (int v : VARIABLES) {
            for (int u : VARIABLES) context((n, g) -> (g[v] | g[u]) == g[u], name(v) + "<" + name(u));
        }
    }

    private static void numbersOfIndividuals() {
        sentence("Meaning", "# k v: itself if the object of v has k individuals. Otherwise none.");
        for (int v : VARIABLES) {
            for (int k = 1; k <= 3; k++) {
                int many = k;
                context((n, g) -> (g[v] & 1) + (g[v] >> 1 & 1) + (g[v] >> 2) == many, "#" + k + name(v));
            }
        }
    }

    // ---- signs

    private static final Test[] TESTS = {
        new Test("x<y", (n, g) -> (g[X] & ~g[Y]) == 0),
        new Test("y=z", (n, g) -> g[Y] == g[Z]),
        new Test("#1y", (n, g) -> Integer.bitCount(g[Y]) == 1),
        new Test("szx", (n, g) -> related(0, g[Z], g[X])),
        new Test("tyy", (n, g) -> related(1, g[Y], g[Y])),
        new Test("qy", (n, g) -> (g[Y] & ~setOf(n, 1)) == 0)};

    private static void rows() {
        sentence("Meaning", "A row: all results of the second unit for all results of the first one, and so on.");
        for (Test a : TESTS) {
            for (Test b : TESTS) {
                context(both(a.condition, b.condition), a.text + "&" + b.text);
                context(both(some(Y, a.condition), b.condition), a.text + "&Ey&" + b.text);
                context(both(a.condition, b.condition), "Ey&" + a.text + "&" + b.text);
                context(some(Y, both(a.condition, b.condition)), a.text + "&" + b.text + "&Ey");
                context(both(some(Y, a.condition), b.condition), "(" + a.text + "&Ey)&" + b.text);
                context(both(some(Y, a.condition), b.condition), a.text + "&(Ey&" + b.text + ")");
                context(both(a.condition, both(b.condition, TESTS[0].condition)), a.text + "&" + b.text + "&" + TESTS[0].text);
            }
        }
        // A unit ahead of an E tells of the object that the variable had.
        context(some(Y, both(TESTS[0].condition, TESTS[2].condition)), "#1y&x<y&Ey");
    }

    private static void negations() {
        sentence("Meaning", "! unit: itself if the unit has no results for it, otherwise none.");
        for (Test a : TESTS) {
            context(not(a.condition), "!" + a.text);
            context(a.condition, "!!" + a.text);
            context(not(a.condition), "!!!" + a.text);
            context(not(a.condition), "!(" + a.text + ")");
            for (int v : VARIABLES) {
                context(not(some(v, a.condition)), "!(E" + name(v) + "&" + a.text + ")");
                context(not(a.condition), "!(" + a.text + "&E" + name(v) + ")");
                context(some(v, a.condition), "!!(E" + name(v) + "&" + a.text + ")");
                context(every(v, a.condition), "!(E" + name(v) + "&!" + a.text + ")");
                context((n, g) -> false, "!E" + name(v));
            }
            for (Test b : TESTS) {
                context(both(not(a.condition), b.condition), "!" + a.text + "&" + b.text);
                context(not(both(a.condition, b.condition)), "!(" + a.text + "&" + b.text + ")");
                context(both(not(some(Y, a.condition)), b.condition), "!(Ey&" + a.text + ")&" + b.text);
            }
        }
    }

    private static void choices() {
        sentence("Meaning", "A choice of two or more rows: itself if at least one of the rows has results for it, otherwise none.");
        for (Test a : TESTS) {
            for (Test b : TESTS) {
                context(either(a.condition, b.condition), a.text + "|" + b.text);
                context(either(a.condition, b.condition), "y=y|y=y", a.text + "|" + b.text);
                context(either(some(Y, a.condition), b.condition), "Ey&" + a.text + "|" + b.text);
                context(either(a.condition, some(Y, b.condition)), a.text + "|Ey&" + b.text);
                context(either(a.condition, b.condition), a.text + "&Ey|" + b.text + "&Ez");
                context(both(either(some(Y, a.condition), some(Z, b.condition)), TESTS[2].condition), "(Ey&" + a.text + "|Ez&" + b.text + ")&#1y");
                for (Test c : TESTS) {
                    context(either(a.condition, either(b.condition, c.condition)), a.text + "|" + b.text + "|" + c.text);
                }
            }
            context((n, g) -> true, "Ey|" + a.text);
        }
        for (int v : VARIABLES) {
            Condition p = (n, g) -> (g[v] & ~setOf(n, 0)) == 0;
            Condition q = (n, g) -> (g[v] & ~setOf(n, 1)) == 0;
            context(either(p, q), "p" + name(v) + "|q" + name(v));
            context(not(either(p, q)), "!(p" + name(v) + "|q" + name(v) + ")");
            context((n, g) -> false, "!E" + name(v) + "|!" + name(v) + "=" + name(v));
            for (int n : WORLDS) {
                due("accept() of a choice of !E" + name(v), accept(world(n), "!E" + name(v) + "|!E" + name(v)), 0);
                due("accept() of a choice of E" + name(v), accept(world(n), "!E" + name(v) + "|E" + name(v)), 1);
            }
        }
    }

    private static void conditions() {
        sentence("Meaning", "A formula with \">\": itself if the formula behind the \">\" has results for each result of the choice ahead of it, otherwise none.");
        for (Test a : TESTS) {
            for (Test b : TESTS) {
                context(ifThen(a.condition, b.condition), a.text + ">" + b.text);
                context(every(Y, ifThen(a.condition, b.condition)), "Ey&" + a.text + ">" + b.text);
                context(ifThen(a.condition, every(Y, b.condition)), a.text + "&Ey>" + b.text);
                context(ifThen(a.condition, some(Y, b.condition)), a.text + ">Ey&" + b.text);
                context(every(X, ifThen(a.condition, some(Z, b.condition))), "Ex&" + a.text + ">Ez&" + b.text);
                // What a choice of two or more rows has results for goes on as it is.
                context(ifThen(either(some(Y, a.condition), some(Y, a.condition)), b.condition), "Ey&" + a.text + "|Ey&" + a.text + ">" + b.text);
                context(both(every(Y, ifThen(a.condition, b.condition)), TESTS[2].condition), "(Ey&" + a.text + ">" + b.text + ")&#1y");
                for (Test c : TESTS) {
                    context(ifThen(a.condition, ifThen(b.condition, c.condition)), a.text + ">" + b.text + ">" + c.text);
                    context(ifThen(ifThen(a.condition, b.condition), c.condition), "(" + a.text + ">" + b.text + ")>" + c.text);
                    context(every(Y, ifThen(a.condition, every(Z, ifThen(b.condition, c.condition)))),
                        "Ey&" + a.text + ">Ez&" + b.text + ">" + c.text);
                }
            }
        }
    }

    private static void signsBesideSigns() {
        sentence("Meaning", "A row .. a choice .. a formula with \">\" (each of them made of those that the grammar says)");
        for (Test a : TESTS) {
            for (Test b : TESTS) {
                for (Test c : TESTS) {
                    Condition one = a.condition;
                    Condition two = b.condition;
                    Condition three = c.condition;
                    context(either(both(one, two), three), a.text + "&" + b.text + "|" + c.text);
                    context(either(one, both(two, three)), a.text + "|" + b.text + "&" + c.text);
                    context(both(either(one, two), three), "(" + a.text + "|" + b.text + ")&" + c.text);
                    context(ifThen(either(one, two), three), a.text + "|" + b.text + ">" + c.text);
                    context(ifThen(one, either(two, three)), a.text + ">" + b.text + "|" + c.text);
                    context(either(one, ifThen(two, three)), a.text + "|(" + b.text + ">" + c.text + ")");
                    context(either(not(one), both(not(two), three)), "!" + a.text + "|!" + b.text + "&" + c.text);
                    context(ifThen(not(one), not(both(two, three))), "!" + a.text + ">!(" + b.text + "&" + c.text + ")");
                }
            }
        }
    }

    // ---- contexts

    private static void resultsOfAContext() {
        sentence("Meaning", "The results of a formula for a context are those for all its assignments together");
        for (Test a : TESTS) {
            for (Test b : TESTS) {
                context(both(a.condition, b.condition), a.text, b.text);
                context(both(some(Y, a.condition), b.condition), a.text, "Ey&" + b.text);
                context(both(a.condition, some(Y, b.condition)), a.text, "!!(Ey&" + b.text + ")");
            }
            context((n, g) -> false, "!(x=x)", a.text);
            context((n, g) -> false, "!(x=x)", "Ex&Ey&Ez");
        }
    }

    private static void supportedFormulas() {
        sentence("Meaning", "a context supports a formula if the formula has results for each of its assignments "
            + "(so a context without assignments supports each formula).");
        for (Test a : TESTS) {
            for (Test b : TESTS) {
                supported(a, b.text, b.condition);
                supported(a, "Ey&" + b.text, some(Y, b.condition));
                supported(a, b.text + "&Ey", b.condition);
                supported(a, "!" + b.text, not(b.condition));
                supported(a, "Ex|" + b.text, (n, g) -> true);
                supported(new Test("!(x=x)", (n, g) -> false), b.text, b.condition);
            }
        }
    }

    /** Whether the context behind a test supports the text, as a question and as a presupposition. */
    private static void supported(Test ahead, String text, Condition hasResults) {
        for (int n : WORLDS) {
            boolean supported = true;
            for (int[] g : assignments(n, 7)) supported &= !ahead.condition.holds(n, g) || hasResults.holds(n, g);
            DiscourseContexts d = furnished(n, 7);
            accept(d, ahead.text);
            String call = " of " + text + " behind " + ahead.text + ", n is " + n;
            due("supports()" + call, write(d, text).supports(), supported ? 1 : 0);
            due("failingAt() as a presupposition" + call, write(d, "[" + text + "]").failingAt(), supported ? NONE : 0);
        }
    }

    // ---- what is known

    /** What unknownVariable() answers in the context that a text has made. */
    private static void unknown(String ahead, String text, int want) {
        DiscourseContexts d = new DiscourseContexts();
        if (!ahead.isEmpty()) accept(d, ahead);
        due("unknownVariable() of " + text + " behind " + ahead, write(d, text).unknownVariable(), want);
        due("accept() of it (1 if it answers UNKNOWN_VARIABLE)", d.accept() == UNKNOWN ? 1 : 0, want == NONE ? 0 : 1);
    }

    private static void unknown(String text, int want) {
        unknown("", text, want);
    }

    private static void knownFromLeftToRight() {
        sentence("Meaning", "What is known is found from left to right.");
        unknown("Ex&px", NONE);
        unknown("px&Ex", 1);
        unknown("px;Ex", 1);
        unknown("Ex>px", NONE);
        unknown("px>Ex", 1);
        unknown("Ey&px&Ex&px&qy", 4);
    }

    private static void knownAheadOfTheText() {
        sentence("Meaning", "Ahead of the text it is what is known in the context.");
        for (int v : VARIABLES) {
            for (int u : VARIABLES) {
                unknown("E" + name(v), "p" + name(u), u == v ? NONE : 1);
                unknown("E" + name(v) + "&!Ex", "p" + name(u), u == v ? NONE : 1);
                unknown("!!E" + name(v), "p" + name(u), 1);
            }
            unknown("Ex;Ey;Ez", "p" + name(v), NONE);
            unknown("", "p" + name(v), 1);
        }
        DiscourseContexts d = write(knowing(2, "Ex"), "px");
        due("unknownVariable()", d.unknownVariable(), NONE);
        d.resetContext();
        due("unknownVariable() behind resetContext()", d.unknownVariable(), 1);
        d.undo();
        due("unknownVariable() behind undo()", d.unknownVariable(), NONE);
        due("worldsTrue(), which is about the first context", d.worldsTrue(), UNKNOWN);
    }

    private static void knownFromThereOn() {
        sentence("Meaning", "E v makes v known from there on.");
        for (int v : VARIABLES) {
            for (int u : VARIABLES) {
                unknown("E" + name(v) + "&p" + name(u), u == v ? NONE : 4);
                unknown("E" + name(v) + "&E" + name(u) + "&p" + name(v), NONE);
                unknown("E" + name(v) + ";E" + name(u) + ";" + name(v) + "=" + name(u), NONE);
                due("known() behind E.;E.", knowing(2, "E" + name(v) + ";E" + name(u)).known(), 1 << v | 1 << u);
            }
        }
    }

    private static void partsAndUnitsOneAfterTheOther() {
        sentence("Meaning", "The parts of the text, and the units of a row, are gone through one after the other.");
        for (String between : new String[] {"&", ";", ";[x=x];", "&(x=x)&", "&Ey&", ";Ey;[Ez];"}) {
            unknown("Ex" + between + "px", NONE);
            unknown("(Ex)" + between + "(px)", NONE);
            unknown("((Ex))" + between + "!px", NONE);
            unknown("[Ex];Ex" + between + "px|px", NONE);
            unknown("Ex" + between + "px>px", NONE);
        }
        unknown("[Ex];[Ey];[sxy];[Ez];sxy&tyz", NONE);
        unknown("Ex;[py];Ey", 5);
        unknown("Ex&py&Ey", 4);
        due("known() behind [Ex];(Ey&(Ez))", knowing(2, "[Ex];(Ey&(Ez))").known(), 7);
    }

    private static void knownAheadOfTheFormulaBehind() {
        sentence("Meaning", "Ahead of the formula behind a \">\" it is what is known behind the choice ahead of the \">\".");
        unknown("Ex>px", NONE);
        unknown("Ex&Ey>sxy", NONE);
        unknown("Ex>Ey>Ez>sxy&tyz", NONE);
        unknown("Ex>px|qx", NONE);
        unknown("(Ex)>!px", NONE);
        unknown("Ex>py", 4);
        unknown("Ex|Ex>px", 7);
        unknown("!Ex>px", 5);
        unknown("(Ex>Ex)>px", 9);
        unknown("Ex>(Ey>px)&py", 12);
        unknown("Ez;Ex|Ey>pz", NONE);
    }

    private static void knownAheadOfEachRow() {
        sentence("Meaning", "Ahead of each row of a choice of two or more rows it is what is known ahead of the choice.");
        unknown("Ex|px", 4);
        unknown("Ex|Ey|px", 7);
        unknown("Ex|Ey|py", 7);
        unknown("Ex&px|px", 7);
        unknown("Ex&px|Ex&px", NONE);
        unknown("Ex;px|qx|rx", NONE);
        unknown("Ex>px|qx|rx", NONE);
        unknown("Ex&(Ey|px|py)", 11);
        unknown("Ex", "Ey|px", NONE);
        unknown("Ex", "Ey|py", 4);
    }

    private static void knownBehindScopes() {
        sentence("Meaning", "Behind a \"!\" with its unit, a choice of two or more rows, or a formula with \">\", it is only what was known ahead of it.");
        for (String scope : new String[] {"!Ex", "!!Ex", "!(Ex)", "(Ex|Ex)", "(Ex|Ey|Ex)", "(Ex>Ex)", "(Ex>Ey)", "(Ey>Ex)", "((Ex>Ey))", "(!Ex|Ex>Ex)"}) {
            unknown(scope + "&px", scope.length() + 2);
            unknown(scope + ";px", scope.length() + 2);
            unknown(scope + ">px", scope.length() + 2);
            unknown("[" + scope + "];px", scope.length() + 4);
            unknown("Ex&" + scope + "&px", NONE);
            unknown("Ex;" + scope + ";px", NONE);
            unknown("Ex", scope + "&px", NONE);
            due("known() behind " + scope, knowing(2, scope).known(), 0);
            due("known() behind Ez;" + scope, knowing(2, "Ez;" + scope).known(), 4);
        }
    }

    private static void unknownVariables() {
        sentence("Meaning", "A variable of a unit other than E that is not known where it stands is unknown.");
        for (int v : VARIABLES) {
            for (int u : VARIABLES) {
                char one = name(v);
                char other = name(u);
                int atOther = u == v ? NONE : 1;
                for (String unit : new String[] {"p", "q", "r"}) unknown("E" + one, unit + other, atOther);
                for (String unit : new String[] {"#1", "#2", "#3"}) unknown("E" + one, unit + other, u == v ? NONE : 2);
                for (String unit : new String[] {"s", "t"}) {
                    unknown("E" + one, unit + one + other, u == v ? NONE : 2);
                    unknown("E" + one, unit + other + one, atOther);
                    unknown(unit + other + one, 1);
                }
                for (String sign : new String[] {"=", "<"}) {
                    unknown("E" + one, one + sign + other, u == v ? NONE : 2);
                    unknown("E" + one, other + sign + one, u == v ? NONE : 0);
                    unknown(other + sign + one, 0);
                }
                unknown("E" + one, "E" + other, NONE);
            }
        }
    }

    // ---- what is known, in long texts

    /** Makes discourses, and while it does, finds what is known where, by the sentences of the document. */
    private static final class Maker {
        final StringBuilder text = new StringBuilder();
        int scopes = 0;
        int unknownAt = NONE;
        int unknownDepth = NONE;

        int discourse(int known, int parts) {
            for (int part = 0; part < parts; part++) {
                if (part > 0) text.append(';');
                boolean presupposed = next(3) == 0;
                if (presupposed) text.append('[');
                known = formula(known, 3);
                if (presupposed) text.append(']');
            }
            return known;
        }

        private int formula(int known, int room) {
            if (room == 0 || next(3) > 0) return choice(known, room);
            scopes++;
            int between = choice(known, room - 1);
            text.append('>');
            formula(between, room - 1);
            scopes--;
            return known;
        }

        private int choice(int known, int room) {
            if (next(3) > 0) return row(known, room);
            int rows = 2 + next(2);
            scopes++;
            for (int i = 0; i < rows; i++) {
                if (i > 0) text.append('|');
                row(known, room);
            }
            scopes--;
            return known;
        }

        private int row(int known, int room) {
            known = unit(known, room);
            while (next(2) == 0) {
                text.append('&');
                known = unit(known, room);
            }
            return known;
        }

        private int unit(int known, int room) {
            int kind = next(room > 0 ? 9 : 7);
            if (kind == 8) {
                text.append('!');
                scopes++;
                unit(known, room - 1);
                scopes--;
                return known;
            }
            if (kind == 7) {
                text.append('(');
                int behind = formula(known, room - 1);
                text.append(')');
                return behind;
            }
            if (kind < 3) {
                int variable = next(3);
                text.append('E').append(name(variable));
                return known | 1 << variable;
            }
            if (kind == 3) text.append("pqr".charAt(next(3)));
            if (kind == 4) text.append("st".charAt(next(2)));
            if (kind == 5) text.append('#').append("123".charAt(next(3)));
            variable(known);
            if (kind == 6) text.append("=<".charAt(next(2)));
            if (kind == 4 || kind == 6) variable(known);
            return known;
        }

        private void variable(int known) {
            int variable = next(3);
            // Else nearly all texts would have an unknown variable.
            for (int i = 0; i < 2 && (known >> variable & 1) == 0 && next(8) > 0; i++) variable = (variable + 1) % 3;
            if ((known >> variable & 1) == 0 && unknownAt == NONE) {
                unknownAt = text.length();
                unknownDepth = scopes;
            }
            text.append(name(variable));
        }
    }

    private static void textsThatWereMade() {
        sentence("Meaning", "What is known is found from left to right .. (all of its sentences together)");
        String[] contexts = {"!!Ex", "Ex", "Ey", "Ex;Ey", "Ez", "Ex;Ez", "Ey;Ez", "Ex;Ey;Ez"};
        int unknown = 0;
        int many = 0;
        while (many < 20000) {
            int known = next(8);
            Maker maker = new Maker();
            int behind = maker.discourse(known, 1 + next(3));
            if (maker.text.length() > 60) continue;
            many++;
            unknown += maker.unknownAt == NONE ? 0 : 1;
            DiscourseContexts d = knowing(1, contexts[known]);
            write(d, maker.text.toString());
            String call = " of " + maker.text + " behind " + contexts[known];
            due("unknownVariable()" + call, d.unknownVariable(), maker.unknownAt);
            due("unknownDepth()" + call, d.unknownDepth(), maker.unknownDepth);
            int accepted = d.accept();
            due("accept() (1 if a variable is unknown)" + call, accepted == UNKNOWN ? 1 : 0, maker.unknownAt == NONE ? 0 : 1);
            due("known() behind accept()" + call, d.known(), accepted >= 0 ? behind : known);
        }
        due("in many texts, but not in most of them, a variable is unknown (1)", unknown > 2000 && unknown < 18000 ? 1 : 0, 1);
    }
}
