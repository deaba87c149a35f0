/** The sentences of promises 20 to 24, and of "Accepting" and "Meaning", that name a boundary case: a test for each. */
public final class AcceptingBoundaryTests extends Checks {
    private static final String[] FAULTY = {"", "px&", "[py", "Ex;", "!!!!!!!!!px", TWENTY_PARTS + ";", "Ex px"};
    private static final String[] UNKNOWN_ALONE = {"pz", "Ex&pz", "x=z", "[pz]", "!(Ex&z<x)", "Ex|pz", "Ez>Ex;pz", TWENTY_PARTS.substring(0, 57) + "sxz"};

    public static void main(String[] arguments) {
        acceptRefusesAFault();
        acceptRefusesAnUnknownVariable();
        acceptRefusesWhatFails();
        acceptRefusesTheFaultFirst();
        acceptRefusesTheUnknownVariableFirst();
        theTextStays();
        acceptIsAnAction();
        acceptWithoutAssignments();
        acceptTurnsIntoNone();
        acceptTheFullText();
        acceptTheFullTextOfTheMostPieces();
        acceptPartByPart();
        everyObjectIsGiven();
        everyObjectIsGivenInScopes();
        otherVariablesStay();
        numbersOfIndividuals();
        equalAndWithin();
        rowsOfUnits();
        negations();
        choices();
        conditions();
        supportedByEachAssignment();
        notSupportedByOne();
        accommodatedIfThereAreResults();
        notAccommodatedWithoutResults();
        presuppositionsWithoutAssignments();
        nothingOfATextThatFails();
        acceptableAnswersAsAccept();
        failingAtRefuses();
        failingAtTheEndsOfTheText();
        failingAtTheFirstOfSeveral();
        failingAtNone();
        accommodatedAtFirstAndBehindNone();
        accommodatedIsLeft();
        accommodatedIsReplaced();
        accommodatedPartRefuses();
        accommodatedPartFromTheFirstToTheLast();
        accommodatedPartsOfAllNumbers();
        finish();
    }

    // ---- promise 20: errors

    /** What accept() and its two questions refuse. */
    private static void acceptRefused(String text, Made made, int error) {
        Made written = () -> write(made.make(), text);
        promise(20, "accept() returns the error, and changes nothing");
        refused("accept() of " + text, written, DiscourseContexts::accept, error);
        promise(21, "acceptable() tells what accept() would return now");
        refused("acceptable() of " + text, written, DiscourseContexts::acceptable, error);
        promise(22, "failingAt() returns SYNTAX_FAULT or UNKNOWN_VARIABLE");
        if (error != FAILS) refused("failingAt() of " + text, written, DiscourseContexts::failingAt, error);
    }

    private static void acceptRefusesAFault() {
        for (String text : FAULTY) {
            acceptRefused(text, DiscourseContexts::new, SYNTAX);
            for (int n : WORLDS) {
                acceptRefused(text, () -> lived(n), SYNTAX);
                acceptRefused(text, () -> withoutAssignments(n), SYNTAX);
            }
        }
    }

    private static void acceptRefusesAnUnknownVariable() {
        for (String text : UNKNOWN_ALONE) {
            acceptRefused(text, DiscourseContexts::new, UNKNOWN);
            for (int n : WORLDS) {
                acceptRefused(text, () -> lived(n), UNKNOWN);
                acceptRefused(text, () -> withoutAssignments(n), UNKNOWN);
            }
        }
    }

    private static void acceptRefusesWhatFails() {
        for (int n : WORLDS) {
            acceptRefused("[!(Ex)]", () -> lived(n), FAILS);
            acceptRefused("Ex;[!(x=x)]", () -> lived(n), FAILS);
            acceptRefused("Ex;[x=x];[x=x&!(x=x)]", () -> world(n), FAILS);
            if (n > 1) acceptRefused("Ex;[#1x];Ey", () -> world(n), FAILS);
        }
    }

    private static void acceptRefusesTheFaultFirst() {
        for (int n : WORLDS) {
            acceptRefused("pz&", () -> lived(n), SYNTAX);
            acceptRefused("pz)", () -> lived(n), SYNTAX);
            acceptRefused("[!(Ex)];pz;", () -> lived(n), SYNTAX);
            acceptRefused("[!(Ex)]Ey", () -> lived(n), SYNTAX);
            acceptRefused("[!(Ex)]&", () -> world(n), SYNTAX);
        }
    }

    private static void acceptRefusesTheUnknownVariableFirst() {
        for (int n : WORLDS) {
            acceptRefused("[!(Ex)];pz", () -> lived(n), UNKNOWN);
            acceptRefused("[!(Ex)];Ex;py", () -> world(n), UNKNOWN);
            acceptRefused("[!pz]", () -> lived(n), UNKNOWN);
            acceptRefused("[!(Ex)&pz]", () -> withoutAssignments(n), UNKNOWN);
        }
    }

    private static void theTextStays() {
        promise(20, "Accepts the text. The text stays.");
        for (int n : WORLDS) {
            DiscourseContexts d = world(n);
            accept(d, "Ex;x=x");
            due("partCount()", d.partCount(), 2);
            due("accept() again", d.accept(), everybody(n));
            due("type('y')", d.type('y'), 7);
            due("accept() of Ex;x=xy", d.accept(), SYNTAX);
            due("clearText()", d.clearText(), 7);
        }
    }

    private static void acceptIsAnAction() {
        promise(20, "This is an action (also if nothing changes by it)");
        acted("accept() of !(Ex&px), nothing changes", () -> written("!(Ex&px)"), DiscourseContexts::accept, 1);
        acted("accept() of Ex", () -> written("Ex"), DiscourseContexts::accept, 3);
        int[] sizes = {1, 3, 7};
        for (int n : WORLDS) {
            acted("accept() again", () -> lived(n), DiscourseContexts::accept, sizes[n - 1]);
            acted("accept() of x=x, nothing changes", () -> write(withoutAssignments(n), "x=x"), DiscourseContexts::accept, 0);
            acted("accept() of !(x=x)", () -> write(lived(n), "!(x=x)"), DiscourseContexts::accept, 0);
        }
    }

    // ---- promise 20: parts

    private static void acceptWithoutAssignments() {
        promise(20, "A part that is a formula turns the context into that of all its results: of none");
        for (int n : WORLDS) {
            for (String text : new String[] {"Ey", "Ex;Ey;Ez", "x=x", "!(x=x)", "x=x|Ey", "x=x>!(x=x)", "!x=x;Ez&x=z"}) {
                due("accept() of " + text, accept(withoutAssignments(n), text), 0);
            }
            DiscourseContexts d = withoutAssignments(n);
            accept(d, "Ey");
            due("known()", d.known(), 3);
        }
    }

    private static void acceptTurnsIntoNone() {
        promise(20, "Returns the number of assignments of the context then: none");
        for (int n : WORLDS) {
            due("accept() of !Ex", accept(world(n), "!Ex"), 0);
            due("accept() of Ex;!(x=x);Ey", accept(world(n), "Ex;!(x=x);Ey"), 0);
            DiscourseContexts d = knowing(n, "!Ex");
            due("known() behind !Ex", d.known(), 0);
            due("contextSize() behind !Ex", d.contextSize(), 0);
            due("accept() of Ex behind it", accept(d, "Ex"), 0);
            due("known() behind Ex", d.known(), 1);
        }
    }

    private static void acceptTheFullText() {
        promise(20, "one text of at most 60 characters");
        int[] all = {1, 27, 343};
        for (int n : WORLDS) {
            due("accept() of 20 parts", accept(world(n), TWENTY_PARTS), everybody(n));
            due("accept() of 60 characters", accept(world(n), TWENTY_PARTS.substring(0, 54) + "Ey;Ez"), all[n - 1]);
            due("accept() of 60 characters", accept(world(n), TWENTY_PARTS.substring(0, 57) + "x=x"), everybody(n));
            due("accept() of 60 characters", accept(world(n), TWENTY_PARTS.substring(0, 57) + "!px"), everybody(n));
            due("accept() of 60 characters", accept(world(n), TWENTY_PARTS.substring(0, 57) + "#1x"), n);
        }
    }

    private static void acceptTheFullTextOfTheMostPieces() {
        promise(20, "one text of at most 60 characters (nearly each of them a piece of its own)");
        String text = "!!!!!!!!Ex;!!!!!!!!Ex;!!!!!!!!Ex;!!!!!!!!Ex;!!!!!!!!Ex;!!!Ex";
        String odd = "!!!!!!!!Ex;!!!!!!!!Ex;!!!!!!!!Ex;!!!!!!!!Ex;!!!!!!!!Ex;!!!!Ex";
        String rows = "!!!!!!!!Ex&!!!!!!!!Ex|!!!!!!!!Ex&!!!!!!!!Ex|!!!!!!Ex>!!!!!Ex";
        for (int n : WORLDS) {
            due("accept() of " + text, accept(world(n), text), 0);
            due("partCount() of " + text, write(world(n), text).partCount(), 6);
            due("sizeBehind(5) of " + text, write(world(n), text).sizeBehind(5), 1);
            due("accept() of 61 characters, of which 60 are typed", accept(world(n), odd), SYNTAX);
            due("accept() of " + rows, accept(world(n), rows), 0);
            due("accept() of " + rows + ", one sign less", accept(world(n), rows.replace(">!", ">")), 1);
        }
    }

    private static void acceptPartByPart() {
        promise(20, "A text is accepted part by part, from left to right");
        DiscourseContexts d = new DiscourseContexts();
        d.setPredicate(0, 1);
        due("accept() of Ex;px;[px]", accept(d, "Ex;px;[px]"), 1);
        due("accept() of Ex;[px];px", accept(d, "Ex;[px];px"), FAILS);
        due("accept() of [Ex];px", accept(d, "[Ex];px"), 1);
        due("accept() of [Ex&px];[px];[#1x]", accept(d, "[Ex&px];[px];[#1x]"), 1);
        due("accept() of Ex;px;Ex", accept(d, "Ex;px;Ex"), 3);
        due("accept() of Ex;Ex;px", accept(d, "Ex;Ex;px"), 1);
    }

    // ---- promise 20: meaning

    private static void everyObjectIsGiven() {
        promise(20, "E v: all assignments that give v some object (any one)");
        for (int n : WORLDS) {
            for (int variable : VARIABLES) {
                char v = (char) ('x' + variable);
                DiscourseContexts d = knowing(n, "E" + v);
                due("contextSize() behind E" + v, d.contextSize(), everybody(n));
                due("objects(..) behind E" + v, d.objects(variable), (1 << everybody(n) + 1) - 2);
                accept(d, "#" + n + v + ";E" + v);
                due("objects(..) behind E" + v + " again", d.objects(variable), (1 << everybody(n) + 1) - 2);
            }
        }
    }

    private static void everyObjectIsGivenInScopes() {
        promise(20, "E v: all assignments that give v some object (any one; behind a '!' and ahead of a '>', too)");
        for (int n : WORLDS) {
            for (char v : "xyz".toCharArray()) {
                String text = "!(E" + v + "&!p" + v + ")";
                due("accept() of " + text + ", all in the set", accept(withP(n, everybody(n), 0), text), 1);
                due("accept() of " + text + ", one not in it", accept(withP(n, everybody(n) - 1, 0), text), 0);
                text = "E" + v + ">p" + v;
                due("accept() of " + text + ", all in the set", accept(withP(n, everybody(n), 0), text), 1);
                due("accept() of " + text + ", one not in it", accept(withP(n, everybody(n) - 1, 0), text), 0);
                for (char u : "xyz".toCharArray()) {
                    if (u != v) givenBeside(n, u, v);
                }
            }
        }
    }

    private static void givenBeside(int n, char u, char v) {
        int all = everybody(n);
        for (String unit : new String[] {"s" + u + v, "s" + v + u}) {
            String text = "E" + u + ";!(E" + v + "&" + unit + ")";
            due("accept() of " + text + ", no pairs", accept(world(n), text), all);
            DiscourseContexts d = world(n);
            d.setPair(0, n - 1, n - 1, 1);
            due("accept() of " + text + ", one pair", accept(d, text), all - 1);
            due("supports() of E.;E.;" + unit, write(d, "E" + u + ";E" + v + ";" + unit).supports(), 1);
            due("supports() of E.;" + unit, write(d, "E" + v + ";" + unit).supports(), n == 1 ? 1 : 0);
        }
        String text = "E" + u + ";!(E" + v + "&!(" + v + "<" + u + "))";
        due("accept() of " + text + ", within the largest one", accept(world(n), text), 1);
        text = "E" + u + ";!(E" + v + "&!(" + u + "<" + v + "))";
        due("accept() of " + text + ", within all", accept(world(n), text), n == 1 ? 1 : 0);
        text = "E" + u + ";E" + v + ">" + u + "=" + v;
        due("accept() of " + text + ", equal to all", accept(world(n), text), n == 1 ? 1 : 0);
        text = "E" + u + ";!(E" + v + "&" + u + "=" + v + ")";
        due("accept() of " + text + ", equal to none", accept(world(n), text), 0);
    }

    private static void otherVariablesStay() {
        promise(20, "E v: .. and give all other known variables what the assignment gives them");
        for (int n : WORLDS) {
            for (char v : "xyz".toCharArray()) {
                for (char u : "xyz".toCharArray()) {
                    if (u == v) continue;
                    String text = "E" + v + ";#" + n + v + ";E" + u;
                    DiscourseContexts d = knowing(n, text);
                    due("objects(..) behind " + text, d.objects(v - 'x'), 1 << everybody(n));
                    due("objects(..) of the other one", d.objects(u - 'x'), (1 << everybody(n) + 1) - 2);
                    due("accept() of " + v + "=" + u, accept(d, v + "=" + u), 1);
                }
            }
        }
    }

    private static void numbersOfIndividuals() {
        promise(20, "# k v: itself if the object of v has k individuals. Otherwise none");
        int[][] sizes = {{1, 0, 0}, {2, 1, 0}, {3, 3, 1}};
        for (int n : WORLDS) {
            for (int k = 1; k <= 3; k++) {
                for (char v : "xyz".toCharArray()) due("accept() of E" + v + "&#" + k, accept(world(n), "E" + v + "&#" + k + v), sizes[n - 1][k - 1]);
            }
        }
    }

    private static void equalAndWithin() {
        promise(20, "v = u: if both are equal; v < u: if each individual of the object of v is in that of u");
        for (int n : WORLDS) {
            for (char v : "xyz".toCharArray()) {
                for (char u : "xyz".toCharArray()) {
                    for (char sign : new char[] {'=', '<'}) equalOrWithin(n, v, sign, u);
                }
            }
        }
    }

    private static void equalOrWithin(int n, char v, char sign, char u) {
        String text = "Ex;Ey;Ez;" + v + sign + u;
        DiscourseContexts d = knowing(n, text);
        for (int one = 1; one <= everybody(n); one++) {
            for (int other = 1; other <= everybody(n); other++) {
                boolean holds = sign == '=' ? one == other : (one & other) == one;
                boolean possible = v != u || one == other;
                int count = v == u ? everybody(n) * everybody(n) : everybody(n);
                String call = "together(.., " + one + ", .., " + other + ") behind " + text;
                due(call, d.together(v - 'x', one, u - 'x', other), holds && possible ? count : 0);
            }
        }
    }

    private static void rowsOfUnits() {
        promise(20, "A row: all results of the second unit for all results of the first one, and so on");
        DiscourseContexts d = world(3);
        d.setPredicate(0, 3);
        d.setPredicate(1, 6);
        due("accept() of Ex&px", accept(d, "Ex&px"), 3);
        due("accept() of Ex&px&qx", accept(d, "Ex&px&qx"), 1);
        due("accept() of Ex&px&Ex&qx", accept(d, "Ex&px&Ex&qx"), 3);
        due("accept() of Ex&Ey&px&qy", accept(d, "Ex&Ey&px&qy"), 9);
        due("accept() of Ex&px&qx&rx", accept(d, "Ex&px&qx&rx"), 0);
        due("accept() of rx&Ex", accept(d, "Ex;rx&Ex"), 0);
    }

    private static void negations() {
        promise(20, "! unit: itself if the unit has no results for it, otherwise none");
        for (int n : WORLDS) {
            due("accept() of !Ex", accept(world(n), "!Ex"), 0);
            due("accept() of !!Ex", accept(world(n), "!!Ex"), 1);
            due("accept() of Ex;!!!(x=x)", accept(world(n), "Ex;!!!(x=x)"), 0);
            due("accept() of Ex;!#1x", accept(world(n), "Ex;!#1x"), everybody(n) - n);
            due("accept() of Ex;!!#1x", accept(world(n), "Ex;!!#1x"), n);
            due("accept() of !!!!!!!!Ex", accept(world(n), "!!!!!!!!Ex"), 1);
            due("accept() of Ex;!(Ex&#1x)", accept(world(n), "Ex;!(Ex&#1x)"), 0);
            due("accept() of Ex;!(Ey&!(x<y))", accept(world(n), "Ex;!(Ey&!(x<y))"), n == 1 ? 1 : 0);
            due("accept() of Ex;!(Ey&!(y<x))", accept(world(n), "Ex;!(Ey&!(y<x))"), 1);
        }
    }

    private static void choices() {
        promise(20, "A choice of two or more rows: itself if at least one of the rows has results for it, otherwise none");
        for (int n : WORLDS) {
            int all = everybody(n);
            due("none of two", accept(world(n), "Ex;px|qx"), 0);
            due("the first of two", accept(world(n), "Ex;x=x|qx"), all);
            due("the second of two", accept(world(n), "Ex;px|x=x"), all);
            due("both", accept(world(n), "Ex;x=x|x=x"), all);
            due("none of three", accept(world(n), "Ex;px|qx|rx"), 0);
            due("the last of three", accept(world(n), "Ex;px|qx|x=x"), all);
            due("the middle one of three", accept(world(n), "Ex;px|x=x|qx"), all);
            due("of one row the results are given on", accept(world(n), "(Ex)"), all);
            due("of two rows they are not", accept(world(n), "Ex|Ex"), 1);
            due("many rows", accept(world(n), "!Ex|!Ex|!Ex|!Ex|!Ex|!Ex|!Ex|!Ex|!Ex|!Ex|!Ex|!Ex|!Ex|Ex"), 1);
            due("one for some, one for others", accept(world(n), "Ex;#1x|#2x|#3x"), all);
        }
    }

    private static void conditions() {
        promise(20, "A formula with '>': itself if the formula behind has results for each result of the choice ahead, otherwise none");
        for (int n : WORLDS) {
            int all = everybody(n);
            due("nothing ahead", accept(world(n), "Ex;!(x=x)>!(x=x)"), all);
            due("nothing behind", accept(world(n), "Ex;x=x>!(x=x)"), 0);
            due("nothing ahead and something behind", accept(world(n), "Ex;!(x=x)>x=x"), all);
            due("something ahead and behind", accept(world(n), "Ex;x=x>x=x"), all);
            due("each of all", accept(world(n), "Ex>x=x"), 1);
            due("all but some", accept(world(n), "Ex>#1x"), n == 1 ? 1 : 0);
            due("none of all", accept(world(n), "Ex>!(x=x)"), 0);
            due("one behind is enough", accept(world(n), "Ex>Ey&x=y"), 1);
            due("the largest one has none above", accept(world(n), "Ex;(Ey&x<y)>x=y"), 1);
            due("nested to the right", accept(world(n), "Ex;!(x=x)>x=x>!(x=x)"), all);
            due("nested to the right", accept(world(n), "Ex;x=x>!(x=x)>!(x=x)"), all);
            due("nested to the left", accept(world(n), "Ex;(x=x>!(x=x))>!(x=x)"), all);
            due("nested to the left", accept(world(n), "Ex;(!(x=x)>!(x=x))>!(x=x)"), 0);
        }
    }

    // ---- promise 20: presuppositions

    private static DiscourseContexts withP(int n, int set, int accommodation) {
        DiscourseContexts d = world(n);
        d.setPredicate(0, set);
        d.setAccommodation(accommodation);
        return d;
    }

    private static void supportedByEachAssignment() {
        promise(20, "if the context supports its formula, .. the context is turned into that of all its results");
        for (int n : WORLDS) {
            for (int on : SWITCHES) {
                DiscourseContexts d = withP(n, everybody(n), on);
                due("accept() of Ex;[px]", accept(d, "Ex;[px]"), everybody(n));
                due("accommodated()", d.accommodated(), 0);
                due("accept() of [Ey]", accept(d, "[Ey]"), everybody(n) * everybody(n));
                due("accommodated()", d.accommodated(), 0);
                due("accept() of [Ey&y=x]", accept(d, "[Ey&y=x]"), everybody(n));
                due("accommodated()", d.accommodated(), 0);
            }
        }
    }

    private static void notSupportedByOne() {
        promise(20, "the context supports a formula if it has results for each of its assignments (one is without)");
        for (int n = 2; n <= 3; n++) {
            int some = n;
            DiscourseContexts d = withP(n, everybody(n), 0);
            refused("accept() of Ex;[!#.x]", () -> write(withP(some, 0, 0), "Ex;[!#" + some + "x]"), DiscourseContexts::accept, FAILS);
            due("failingAt()", write(d, "Ex;[!#" + n + "x]").failingAt(), 3);
            due("accept() with all of them", accept(d, "Ex;!#" + n + "x;[!#" + n + "x]"), everybody(n) - 1);
        }
    }

    private static void accommodatedIfThereAreResults() {
        promise(20, "or if the accommodation is on and the formula has results for the context .. the part is accommodated");
        for (int n = 2; n <= 3; n++) {
            for (int object = 1; object <= everybody(n); object++) {
                DiscourseContexts d = withP(n, object, 1);
                String text = "Ex;[px&#" + Integer.bitCount(object) + "x]";
                due("accept() of " + text + ", one assignment has results", accept(d, text), 1);
                due("accommodated()", d.accommodated(), 1);
                due("accommodatedPart(0)", d.accommodatedPart(0), 1);
                due("objects(0)", d.objects(0), 1 << object);
                d.setAccommodation(0);
                due("accept() of " + text + ", off", accept(d, text), FAILS);
                due("accommodated()", d.accommodated(), 1);
            }
            DiscourseContexts d = withP(n, 0, 1);
            due("accept() of Ex;[!#.x], all but one have results", accept(d, "Ex;[!#" + n + "x]"), everybody(n) - 1);
            due("accommodated()", d.accommodated(), 1);
        }
    }

    private static void notAccommodatedWithoutResults() {
        promise(20, "Otherwise the presupposition fails, and the text is not accepted");
        for (int n : WORLDS) {
            for (int on : SWITCHES) {
                refused("accept() of Ex;[px]", () -> write(withP(n, 0, on), "Ex;[px]"), DiscourseContexts::accept, FAILS);
                refused("accept() of [!Ex]", () -> write(withP(n, 0, on), "[!Ex]"), DiscourseContexts::accept, FAILS);
                refused("accept() of [Ex&px]", () -> write(withP(n, 0, on), "[Ex&px]"), DiscourseContexts::accept, FAILS);
            }
        }
    }

    private static void presuppositionsWithoutAssignments() {
        promise(20, "a context without assignments supports each formula");
        for (int n : WORLDS) {
            for (int on : SWITCHES) {
                for (String text : new String[] {"[x=x]", "[!(x=x)]", "[Ey&!(x=x)]", "[!Ex];[!Ex]"}) {
                    DiscourseContexts d = withoutAssignments(n);
                    d.setAccommodation(on);
                    due("accept() of " + text, accept(d, text), 0);
                    due("accommodated() behind " + text, d.accommodated(), 0);
                    due("failingAt() of " + text, d.failingAt(), NONE);
                    due("acceptable() of " + text, d.acceptable(), 0);
                }
                DiscourseContexts d = withP(n, 0, on);
                due("accept() of !Ex;[!Ex]", accept(d, "!Ex;[!Ex]"), 0);
                due("accommodated()", d.accommodated(), 0);
            }
        }
    }

    private static void nothingOfATextThatFails() {
        promise(20, "the text is not accepted (nothing of the parts ahead of the one that fails)");
        for (int n : WORLDS) {
            refused("accept()", () -> write(lived(n), "Ez;z=x;[!(z=z)]"), DiscourseContexts::accept, FAILS);
            refused("accept()", () -> write(lived(n), "Ex;Ey;[px|!px];[!Ex];Ez"), DiscourseContexts::accept, FAILS);
            if (n > 1) refused("accept()", () -> write(lived(n), "Ex;[#1x];[#1x&!#1x]"), DiscourseContexts::accept, FAILS);
        }
    }

    // ---- promises 21 and 22

    private static void acceptableAnswersAsAccept() {
        promise(21, "Tells what accept() would return now; nothing changes");
        String[] texts = {"Ex", "!Ex", "[Ex]", "[!Ex]", "Ex;Ey;Ez", "Ex;[#1x]", "Ex;!#1x;[#2x]", "Ex|Ey", "Ex>Ey", TWENTY_PARTS, "Ex;[px];[qx]"};
        for (int n : WORLDS) {
            for (Made made : new Made[] {() -> world(n), () -> lived(n), () -> withoutAssignments(n), () -> withP(n, 1, 1)}) {
                for (String text : texts) {
                    int accepted = accept(made.make(), text);
                    asked("acceptable() of " + text, () -> write(made.make(), text), DiscourseContexts::acceptable, accepted);
                }
            }
        }
    }

    private static void failingAtRefuses() {
        promise(22, "SYNTAX_FAULT if the text has one; UNKNOWN_VARIABLE if a variable is unknown; the one that is listed first");
        for (int n : WORLDS) {
            refused("failingAt()", () -> write(lived(n), "[!Ex]&"), DiscourseContexts::failingAt, SYNTAX);
            refused("failingAt()", () -> write(lived(n), "[!Ex];pz&"), DiscourseContexts::failingAt, SYNTAX);
            refused("failingAt()", () -> write(lived(n), "[!Ex];pz"), DiscourseContexts::failingAt, UNKNOWN);
            refused("failingAt()", () -> write(lived(n), "[!pz]"), DiscourseContexts::failingAt, UNKNOWN);
        }
    }

    private static void failingAtTheEndsOfTheText() {
        promise(22, "Returns the index of the '[' of the first presupposition that would fail");
        for (int n : WORLDS) {
            asked("failingAt() of [!Ex]", () -> write(world(n), "[!Ex]"), DiscourseContexts::failingAt, 0);
            asked("failingAt() of Ex;[!Ex]", () -> write(lived(n), "Ex;[!Ex]"), DiscourseContexts::failingAt, 3);
            String late = TWENTY_PARTS.substring(0, 48) + "x=x;x=x;[px]";
            asked("failingAt() of " + late, () -> write(world(n), late), DiscourseContexts::failingAt, 56);
            String middle = TWENTY_PARTS.substring(0, 27) + "[px];" + TWENTY_PARTS.substring(0, 26);
            asked("failingAt() of " + middle, () -> write(world(n), middle), DiscourseContexts::failingAt, 27);
            for (int parts = 0; parts <= 18; parts++) {
                String text = TWENTY_PARTS.substring(0, 3 * parts) + "[!Ex]";
                due("failingAt() of " + text, write(world(n), text).failingAt(), 3 * parts);
            }
        }
    }

    private static void failingAtTheFirstOfSeveral() {
        promise(22, "the first presupposition that would fail if the text was accepted now");
        for (int n : WORLDS) {
            due("failingAt()", write(world(n), "[!Ex];[!Ex];[!Ex]").failingAt(), 0);
            due("failingAt()", write(world(n), "[Ex];[!Ex];[!Ex]").failingAt(), 5);
            due("failingAt()", write(world(n), "[Ex];[Ey];[!Ex]").failingAt(), 10);
            due("failingAt()", write(withP(n, 1, 0), "Ex;[px];[!px]").failingAt(), n == 1 ? 8 : 3);
            due("failingAt(), accommodation on", write(withP(n, 1, 1), "Ex;[px];[!px]").failingAt(), 8);
        }
    }

    private static void failingAtNone() {
        promise(22, "NONE if none would fail");
        for (int n : WORLDS) {
            asked("failingAt()", () -> write(lived(n), "Ex"), DiscourseContexts::failingAt, NONE);
            asked("failingAt()", () -> write(lived(n), "!Ex"), DiscourseContexts::failingAt, NONE);
            asked("failingAt()", () -> write(lived(n), "[Ex]"), DiscourseContexts::failingAt, NONE);
            asked("failingAt()", () -> write(lived(n), "[Ez];[z=z]"), DiscourseContexts::failingAt, NONE);
            asked("failingAt(), accommodated", () -> lived(n), DiscourseContexts::failingAt, NONE);
            asked("failingAt()", () -> write(withoutAssignments(n), "[!Ex]"), DiscourseContexts::failingAt, NONE);
        }
    }

    // ---- promises 23 and 24

    private static void accommodatedAtFirstAndBehindNone() {
        promise(23, "0 if none was accepted");
        for (int n : WORLDS) {
            asked("accommodated()", () -> world(n), DiscourseContexts::accommodated, 0);
            asked("accommodated()", () -> withoutAssignments(n), DiscourseContexts::accommodated, 0);
            asked("accommodated()", () -> lived(n), DiscourseContexts::accommodated, n == 1 ? 0 : 1);
            DiscourseContexts d = withP(n, 0, 1);
            accept(d, "Ex;[px]");
            due("accommodated() behind a text that was not accepted", d.accommodated(), 0);
        }
    }

    private static void oneAccommodated(String behind, DiscourseContexts d) {
        due("accommodated() behind " + behind, d.accommodated(), 1);
        due("accommodatedPart(0) behind " + behind, d.accommodatedPart(0), 1);
        due("accommodatedPart(1) behind " + behind, d.accommodatedPart(1), NONE);
    }

    private static void accommodatedIsLeft() {
        promise(23, "undo() brings it back, resetContext() and setIndividuals() leave it");
        for (int n = 2; n <= 3; n++) {
            DiscourseContexts d = lived(n);
            oneAccommodated("accept()", d);
            d.resetContext();
            oneAccommodated("resetContext()", d);
            for (int individuals : WORLDS) {
                d.setIndividuals(individuals);
                oneAccommodated("setIndividuals(" + individuals + ")", d);
            }
            d.setAccommodation(0);
            oneAccommodated("setAccommodation(0)", d);
            d.setPredicate(0, 0);
            d.setPair(0, 0, 0, 0);
            oneAccommodated("setPredicate(..) and setPair(..)", d);
            d.clearText();
            d.accept();
            oneAccommodated("accept() of the empty text", d);
            accept(d, "[!Ex]");
            oneAccommodated("accept() of a text that fails", d);
            accept(d, "pz");
            oneAccommodated("accept() of an unknown variable", d);
            d.undo();
            oneAccommodated("undo() of setPair(..)", d);
            accept(d, "Ex");
            due("accommodated() behind another text", d.accommodated(), 0);
            d.undo();
            oneAccommodated("undo() of accept()", d);
        }
        DiscourseContexts d = world(2);
        d.setAccommodation(1);
        accept(d, "Ex;[#1x]");
        d.undo();
        due("accommodated() behind undo() of the first accept()", d.accommodated(), 0);
        due("accommodatedPart(0) behind undo()", d.accommodatedPart(0), NONE);
    }

    private static void accommodatedIsReplaced() {
        promise(23, "the number of parts that were accommodated when a text was accepted last");
        DiscourseContexts d = withP(3, 3, 1);
        accept(d, "Ex;[px];[#1x];[x=x]");
        due("accommodated() of two", d.accommodated(), 2);
        accept(d, "[px]");
        due("accommodated() of none", d.accommodated(), 0);
        accept(d, "Ex;Ey;[px];[#1x];[py];[#1y]");
        due("accommodated() of four", d.accommodated(), 4);
        accept(d, "Ex;[px]");
        due("accommodated() of one", d.accommodated(), 1);
        due("accommodatedPart(1)", d.accommodatedPart(1), NONE);
        accept(d, "!Ex;[px]");
        due("accommodated() without assignments", d.accommodated(), 0);
    }

    private static void accommodatedPartRefuses() {
        promise(24, "INVALID_ARGUMENT if index is negative; NONE if there are not so many");
        for (int n : WORLDS) {
            int many = n == 1 ? 0 : 1;
            for (int index : new int[] {-1, -2, -32, -64, -256, -65536, LEAST, LEAST + 1}) {
                refused("accommodatedPart(" + index + ")", () -> lived(n), d -> d.accommodatedPart(index), INVALID);
                refused("accommodatedPart(" + index + ")", DiscourseContexts::new, d -> d.accommodatedPart(index), INVALID);
            }
            for (int index : new int[] {many, many + 1, 20, 32, 60, 64, 256, 65536, MOST}) {
                refused("accommodatedPart(" + index + ")", () -> lived(n), d -> d.accommodatedPart(index), NONE);
                refused("accommodatedPart(" + index + ")", DiscourseContexts::new, d -> d.accommodatedPart(index), NONE);
            }
            if (many == 1) asked("accommodatedPart(0)", () -> lived(n), d -> d.accommodatedPart(0), 1);
        }
    }

    private static void accommodatedPartFromTheFirstToTheLast() {
        promise(24, "`index`: 0 for the first one, and so on; the number of the part of that text, from 0");
        DiscourseContexts d = world(3);
        d.setPredicate(0, 3);
        d.setPredicate(1, 1);
        d.setAccommodation(1);
        accept(d, "Ex;Ey;Ez");
        // Each variable has seven objects, then three, then one, and the fourth time it begins anew.
        due("accept()", accept(d, "[px];[qx];[py];[px];[qy];[pz];[qz];Ex;[px];[qx];Ex;[qx]"), 1);
        int[] parts = {0, 1, 2, 4, 5, 6, 8, 9, 11};
        due("accommodated()", d.accommodated(), parts.length);
        for (int index = 0; index < parts.length; index++) due("accommodatedPart(" + index + ")", d.accommodatedPart(index), parts[index]);
        due("accommodatedPart(9)", d.accommodatedPart(9), NONE);
        due("accommodatedPart(-1)", d.accommodatedPart(-1), INVALID);
        d.setIndividuals(1);
        due("accommodatedPart(8) behind setIndividuals(1)", d.accommodatedPart(8), 11);
    }

    private static void accommodatedPartsOfAllNumbers() {
        promise(24, "Returns the number of the part of that text, from 0 (to the last one that a text has room for)");
        for (int part = 1; part <= 18; part++) {
            DiscourseContexts d = withP(2, 1, 1);
            accept(d, TWENTY_PARTS.substring(0, 3 * part) + "[px]");
            due("accommodated()", d.accommodated(), 1);
            due("accommodatedPart(0)", d.accommodatedPart(0), part);
            due("accommodatedPart(1)", d.accommodatedPart(1), NONE);
        }
        DiscourseContexts d = withP(2, 1, 1);
        accept(d, "Ex");
        accept(d, "[px]");
        due("accommodatedPart(0) of the first part", d.accommodatedPart(0), 0);
    }
}
