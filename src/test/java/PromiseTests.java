/** For each promise of the document: ordinary inputs, some edges, and wrong inputs; all edges stand in the boundary tests. */
public final class PromiseTests extends Checks {
    public static void main(String[] arguments) {
        aNewObject();
        settingIndividuals();
        settingPredicates();
        settingPairs();
        individuals();
        predicates();
        relations();
        typing();
        clearing();
        syntaxFaults();
        openSigns();
        unknownVariables();
        unknownDepths();
        partCounts();
        contextSizes();
        known();
        objects();
        together();
        resetting();
        settingAccommodation();
        accepting();
        acceptingPresuppositions();
        acceptable();
        failing();
        accommodated();
        accommodatedParts();
        sizesBehind();
        supporting();
        worldsTrue();
        historySizes();
        undoing();
        undoingEachAction();
        meaningOfUnits();
        meaningOfSigns();
        textsThatBlowUp();
        finish();
    }

    private static void aNewObject() {
        promise(1);
        DiscourseContexts d = new DiscourseContexts();
        due("individuals", d.individuals(), 2);
        for (int predicate = 0; predicate < 3; predicate++) due("predicate " + predicate, d.predicate(predicate), 0);
        for (int one = 1; one < 4; one++) {
            for (int other = 1; other < 4; other++) {
                due("s", d.relationHolds(0, one, other), 0);
                due("t", d.relationHolds(1, one, other), 0);
            }
        }
        due("contextSize", d.contextSize(), 1);
        due("known", d.known(), 0);
        due("objects(0)", d.objects(0), NONE);
        due("syntaxFault", d.syntaxFault(), 0);
        due("historySize", d.historySize(), 0);
        due("undo", d.undo(), ILLEGAL);
        due("accommodated", d.accommodated(), 0);
        due("accommodatedPart(0)", d.accommodatedPart(0), NONE);
        due("clearText", d.clearText(), 0);
        due("setAccommodation(0)", d.setAccommodation(0), 0);
        DiscourseContexts other = new DiscourseContexts();
        other.setIndividuals(3);
        other.type('E');
        due("individuals of another object", d.individuals(), 2);
        due("text of another object", d.clearText(), 0);
    }

    private static void settingIndividuals() {
        promise(2);
        DiscourseContexts d = new DiscourseContexts();
        due("setIndividuals(3)", d.setIndividuals(3), 2);
        due("setIndividuals(1)", d.setIndividuals(1), 3);
        due("setIndividuals(2)", d.setIndividuals(2), 1);
        due("setIndividuals(2)", d.setIndividuals(2), 2);
        due("historySize", d.historySize(), 4);
        int[] outside = {0, 4, -1, LEAST, MOST};
        for (int individuals : outside) due("setIndividuals(" + individuals + ")", d.setIndividuals(individuals), INVALID);
        due("historySize", d.historySize(), 4);
        due("individuals", d.individuals(), 2);

        DiscourseContexts e = lived(2);
        e.setPredicate(2, 2);
        e.setPair(1, 1, 1, 1);
        due("setIndividuals(2)", e.setIndividuals(2), 2);
        for (int predicate = 0; predicate < 3; predicate++) due("predicate " + predicate, e.predicate(predicate), 0);
        due("s", e.relationHolds(0, 1, 2), 0);
        due("t", e.relationHolds(1, 2, 2), 0);
        due("contextSize", e.contextSize(), 1);
        due("known", e.known(), 0);
        due("accommodated", e.accommodated(), 1);
        due("accommodatedPart(0)", e.accommodatedPart(0), 1);
        due("length of the text", e.clearText(), 10);
        due("setAccommodation(1)", e.setAccommodation(1), 1);
    }

    private static void settingPredicates() {
        promise(3);
        for (int individuals = 1; individuals <= 3; individuals++) {
            DiscourseContexts d = world(individuals);
            int all = (1 << individuals) - 1;
            for (int predicate = 0; predicate < 3; predicate++) {
                due("first set", d.setPredicate(predicate, all), 0);
                due("set of one", d.setPredicate(predicate, 1), all);
                due("empty set", d.setPredicate(predicate, 0), 1);
                due("set again", d.setPredicate(predicate, all), 0);
                due("set too large", d.setPredicate(predicate, all + 1), INVALID);
                due("set -1", d.setPredicate(predicate, -1), INVALID);
                due("set least", d.setPredicate(predicate, LEAST), INVALID);
                due("set most", d.setPredicate(predicate, MOST), INVALID);
                due("predicate", d.predicate(predicate), all);
            }
            int[] outside = {-1, 3, LEAST, MOST};
            for (int predicate : outside) due("setPredicate(" + predicate + ", 1)", d.setPredicate(predicate, 1), INVALID);
        }
        DiscourseContexts d = new DiscourseContexts();
        d.setPredicate(0, 1);
        accept(d, "Ex&px");
        due("setPredicate(0, 2)", d.setPredicate(0, 2), 1);
        due("contextSize", d.contextSize(), 1);
        due("objects(0)", d.objects(0), 2);
        due("known", d.known(), 1);
        due("historySize", d.historySize(), 3);
        due("setPredicate(0, 2)", d.setPredicate(0, 2), 2);
        due("historySize, nothing changed", d.historySize(), 4);
        due("setPredicate(3, 0)", d.setPredicate(3, 0), INVALID);
        due("historySize", d.historySize(), 4);
    }

    private static void settingPairs() {
        promise(4);
        for (int individuals = 1; individuals <= 3; individuals++) {
            for (int relation = 0; relation < 2; relation++) {
                DiscourseContexts d = world(individuals);
                for (int pair = 0; pair < individuals * individuals; pair++) {
                    int from = pair / individuals;
                    int to = pair % individuals;
                    due("put", d.setPair(relation, from, to, 1), 0);
                    due("put again", d.setPair(relation, from, to, 1), 1);
                    due("holds", d.relationHolds(relation, 1 << from, 1 << to), 1);
                    due("holds of the other relation", d.relationHolds(1 - relation, 1 << from, 1 << to), 0);
                    if (from != to) due("holds the other way", d.relationHolds(relation, 1 << to, 1 << from), 0);
                    due("take", d.setPair(relation, from, to, 0), 1);
                    due("take again", d.setPair(relation, from, to, 0), 0);
                    due("holds no more", d.relationHolds(relation, 1 << from, 1 << to), 0);
                }
                due("from too large", d.setPair(relation, individuals, 0, 1), INVALID);
                due("to too large", d.setPair(relation, 0, individuals, 1), INVALID);
            }
        }
        DiscourseContexts d = new DiscourseContexts();
        accept(d, "Ex");
        int[] outside = {-1, 2, LEAST, MOST};
        for (int number : outside) {
            due("relation " + number, d.setPair(number, 0, 0, 1), INVALID);
            due("from " + number, d.setPair(0, number, 0, 1), INVALID);
            due("to " + number, d.setPair(0, 0, number, 1), INVALID);
            due("holds " + number, d.setPair(0, 0, 0, number), INVALID);
        }
        due("historySize", d.historySize(), 1);
        due("relationHolds(0, 1, 1)", d.relationHolds(0, 1, 1), 0);
        due("setPair(0, 0, 0, 0)", d.setPair(0, 0, 0, 0), 0);
        due("historySize, nothing changed", d.historySize(), 2);
        due("contextSize", d.contextSize(), 3);
        due("known", d.known(), 1);
    }

    private static void individuals() {
        promise(5);
        DiscourseContexts d = new DiscourseContexts();
        due("individuals", d.individuals(), 2);
        for (int individuals = 1; individuals <= 3; individuals++) {
            d.setIndividuals(individuals);
            due("individuals", d.individuals(), individuals);
        }
        d.undo();
        due("individuals behind undo", d.individuals(), 2);
    }

    private static void predicates() {
        promise(6);
        DiscourseContexts d = world(3);
        d.setPredicate(0, 5);
        d.setPredicate(1, 2);
        d.setPredicate(2, 7);
        due("predicate(0)", d.predicate(0), 5);
        due("predicate(1)", d.predicate(1), 2);
        due("predicate(2)", d.predicate(2), 7);
        due("predicate(3)", d.predicate(3), INVALID);
        due("predicate(-1)", d.predicate(-1), INVALID);
        due("predicate(least)", d.predicate(LEAST), INVALID);
        due("predicate(most)", d.predicate(MOST), INVALID);
    }

    private static void relations() {
        promise(7);
        DiscourseContexts d = world(3);
        d.setPair(1, 0, 1, 1);
        d.setPair(1, 2, 1, 1);
        d.setPair(1, 2, 2, 1);
        due("0 to 1", d.relationHolds(1, 1, 2), 1);
        due("1 to 0", d.relationHolds(1, 2, 1), 0);
        due("0 and 2 to 1", d.relationHolds(1, 5, 2), 1);
        due("0 and 2 to 1 and 2", d.relationHolds(1, 5, 6), 1);
        due("2 to 1 and 2", d.relationHolds(1, 4, 6), 1);
        due("0 to 1 and 2", d.relationHolds(1, 1, 6), 0);
        due("0 and 1 to 1", d.relationHolds(1, 3, 2), 0);
        due("all to all", d.relationHolds(1, 7, 7), 0);
        due("0 and 2 to all", d.relationHolds(1, 5, 7), 0);
        due("2 to 0 and 1", d.relationHolds(1, 4, 3), 0);
        due("s", d.relationHolds(0, 1, 2), 0);
        int[] outside = {-1, 2, LEAST, MOST};
        for (int relation : outside) due("relation " + relation, d.relationHolds(relation, 1, 1), INVALID);
        int[] noObjects = {0, 8, -1, LEAST, MOST};
        for (int object : noObjects) {
            due("one " + object, d.relationHolds(0, object, 1), INVALID);
            due("other " + object, d.relationHolds(0, 1, object), INVALID);
        }
        DiscourseContexts small = world(1);
        due("object 1 of one individual", small.relationHolds(0, 1, 1), 0);
        due("object 2 of one individual", small.relationHolds(0, 1, 2), INVALID);
        due("object 2 of one individual", small.relationHolds(0, 2, 1), INVALID);
        DiscourseContexts middle = world(2);
        due("object 3 of two individuals", middle.relationHolds(0, 3, 3), 0);
        due("object 4 of two individuals", middle.relationHolds(0, 4, 1), INVALID);
    }

    private static void typing() {
        promise(8);
        DiscourseContexts d = new DiscourseContexts();
        int[] outside = {31, 127, 0, -1, 65536 + 'x', LEAST, MOST};
        for (int character : outside) due("type(" + character + ")", d.type(character), INVALID);
        due("length", d.clearText(), 0);
        due("type(32)", d.type(32), 1);
        due("type(126)", d.type(126), 2);
        for (int length = 3; length <= 60; length++) due("type", d.type('x'), length);
        due("type the 61st", d.type('x'), FULL);
        due("type the 61st again", d.type(126), FULL);
        for (int character : outside) due("type(" + character + ") when full", d.type(character), INVALID);
        due("historySize", d.historySize(), 0);
        due("length", d.clearText(), 60);
        due("type behind clearText", d.type('x'), 1);
        write(d, "Ex");
        due("accept", d.accept(), 3);
        due("known", d.known(), 1);
    }

    private static void clearing() {
        promise(9);
        DiscourseContexts d = written("Ex;px");
        due("clearText", d.clearText(), 5);
        due("clearText again", d.clearText(), 0);
        due("syntaxFault", d.syntaxFault(), 0);
        due("historySize", d.historySize(), 0);
        d.type('E');
        d.type('y');
        due("accept", d.accept(), 3);
        due("known", d.known(), 2);
        due("clearText", d.clearText(), 2);
    }

    private static void fault(String text, int want) {
        due("syntaxFault of \"" + text + "\"", written(text).syntaxFault(), want);
    }

    private static void syntaxFaults() {
        promise(10);
        String[] sound = {"Ex", "px", "qy", "rz", "sxy", "tzz", "x=y", "z<x", "#1x", "#2y", "#3z", "!px", "!!px", "(px)",
            "((Ex))", "!(Ex&px)", "px&qx", "px|qx", "px>qx", "px>qx>rx", "px;qx", "[px]", "[px];[qx]", "[px>qx];Ex|Ey",
            "Ex&(px|qx)&!rx>sxx|(x=x)", "[(px)]", "[!px>(qx|rx)&x<x]"};
        for (String text : sound) fault(text, NONE);
        fault("", 0);
        fault(" ", 0);
        fault("E", 1);
        fault("Ep", 1);
        fault("EX", 1);
        fault("Exx", 2);
        fault("Ex ", 2);
        fault("Ex &px", 2);
        fault("p", 1);
        fault("pxy", 2);
        fault("Px", 0);
        fault("sx", 2);
        fault("sxp", 2);
        fault("s=x", 1);
        fault("txyz", 3);
        fault("ux", 0);
        fault("w=x", 0);
        fault("x", 1);
        fault("xy", 1);
        fault("x>y", 1);
        fault("x=", 2);
        fault("x==y", 2);
        fault("x<1", 2);
        fault("#", 1);
        fault("#0x", 1);
        fault("#4x", 1);
        fault("#x", 1);
        fault("#1", 2);
        fault("#1p", 2);
        fault("#11x", 2);
        fault("1x", 0);
        fault("!", 1);
        fault("!&", 1);
        fault("px!", 2);
        fault("px!qx", 2);
        fault("(", 1);
        fault("()", 1);
        fault("(px", 3);
        fault("(px]", 3);
        fault("(px;qx)", 3);
        fault("px)", 2);
        fault("(px))", 4);
        fault("px(", 2);
        fault("(px)qx", 4);
        fault("(px)(qx)", 4);
        fault("px&", 3);
        fault("px&&qx", 3);
        fault("&px", 0);
        fault("px|", 3);
        fault("px||qx", 3);
        fault("px|&qx", 3);
        fault("|", 0);
        fault("px>", 3);
        fault("px>>qx", 3);
        fault("px>;qx", 3);
        fault(">px", 0);
        fault(";px", 0);
        fault("px;", 3);
        fault("px;;qx", 3);
        fault("[", 1);
        fault("[]", 1);
        fault("[px", 3);
        fault("[px)", 3);
        fault("[px;qx]", 3);
        fault("[px]]", 4);
        fault("[px]&qx", 4);
        fault("[px]>qx", 4);
        fault("[px]qx", 4);
        fault("[[px]]", 1);
        fault("([px])", 1);
        fault("![px]", 1);
        fault("px&[qx]", 3);
        fault("px>[qx]", 3);
        fault("px]", 2);
        fault("]", 0);
        fault("[(px]", 4);
        fault("[px>qx)", 6);
        fault("(px>qx]", 6);
        fault("px>qx)", 5);
        fault("~", 0);
        String full = "Ex&Ex&Ex&Ex&Ex&Ex&Ex&Ex&Ex&Ex&Ex&Ex&Ex&Ex&Ex&Ex&Ex&Ex&Ex&";
        fault(full + "sxy", NONE);
        fault(full + "Ex&", 60);
        fault(full + "Exy", 59);
    }

    private static void openSigns() {
        promise(10);
        fault("!!!!!!!!px", NONE);
        fault("!!!!!!!!!px", 8);
        fault("((((((((px))))))))", NONE);
        fault("(((((((((px)))))))))", 8);
        fault("px>px>px>px>px>px>px>px>px", NONE);
        fault("px>px>px>px>px>px>px>px>px>px", 26);
        fault("!!!!!!!!px&!!!!!!!!px|!!!!!!!!px", NONE);
        fault("!!!!!!!!px>!!!!!!!px", NONE);
        fault("!!!!!!!!px>!!!!!!!!px", 18);
        fault("!(!(!(!(px))))", NONE);
        fault("!(!(!(!(!px))))", 8);
        fault("!(!(!(!((px)))))", 8);
        fault("!(!(!(!(px>px))))", 10);
        fault("!(!(!(!(px)>px)))", NONE);
        fault("!(!(!(!(px)>px>px)))", NONE);
        fault("!(!(!(!(px)>px>px>px)))", 17);
        fault("(px>px>px>px>px>px>px>px)&!!!!!!!!px", NONE);
        fault("(px>px>px>px>px>px>px>px>px)", 24);
        fault("px>(px>(px>(px>px)))", NONE);
        fault("px>(px>(px>(px>(px))))", NONE);
        fault("px>(px>(px>(px>((px)))))", 16);
        fault("px>(px>(px>(px>!px)))", NONE);
        fault("px>(px>(px>(px>!!px)))", 16);
        fault("[!!!!!!!!px];[!!!!!!!!px];!!!!!!!!!px", 34);
        fault("px>px>px>px>px>px>px>px>px;px>px>px>px>px>px>px>px>px", NONE);
        fault("!!!!!!!!!", 8);
        fault("!!!!!!!!", 8);
        fault("!!!!!!!!)", 8);
        fault("!!!!!!!(px)>px", NONE);
        fault("!!!!!!!(px>px)", 10);
    }

    private static void unknown(String text, int want, int depth) {
        promise(11);
        due("unknownVariable of \"" + text + "\"", written(text).unknownVariable(), want);
        promise(12);
        due("unknownDepth of \"" + text + "\"", written(text).unknownDepth(), depth);
    }

    private static void unknownVariables() {
        promise(11);
        unknown("", SYNTAX, SYNTAX);
        unknown("px&", SYNTAX, SYNTAX);
        unknown("Ex", NONE, NONE);
        unknown("Ex&px", NONE, NONE);
        unknown("Ex;px", NONE, NONE);
        unknown("[Ex];px", NONE, NONE);
        unknown("(Ex)&px", NONE, NONE);
        unknown("((Ex&Ey))&sxy", NONE, NONE);
        unknown("Ex&Ex", NONE, NONE);
        unknown("Ex&px>qx", NONE, NONE);
        unknown("Ex>Ey>sxy", NONE, NONE);
        unknown("Ex&(px|qx)", NONE, NONE);
        unknown("Ex&!px", NONE, NONE);
        unknown("Ex|Ey;Ez&pz", NONE, NONE);
        unknown("px&Ex", 1, 0);
        unknown("Ex&py", 4, 0);
        unknown("Ex&sxy", 5, 0);
        unknown("Ex&syx", 4, 0);
        unknown("Ex&x=y", 5, 0);
        unknown("Ex&y=x", 3, 0);
        unknown("Ex&x<z", 5, 0);
        unknown("x=x", 0, 0);
        unknown("#1z", 2, 0);
        unknown("py;px", 1, 0);
        unknown("Ex;[Ey;pz]", SYNTAX, SYNTAX);
        unknown("Ex;[Ey];pz", 9, 0);
        unknown("[px]", 2, 0);
        unknown("!Ex&px", 5, 0);
        unknown("!(Ex)&px", 7, 0);
        unknown("(Ex|Ex)&px", 9, 0);
        unknown("Ex|px", 4, 1);
        unknown("(Ex&px>qx)&rx", 12, 0);
        unknown("(Ex>px)&px", 9, 0);
        unknown("Ex|Ex>px", 7, 1);
        unknown("!Ex>px", 5, 1);
        unknown("(Ex|Ex);px", 9, 0);
        unknown("Ex>px;qx", 7, 0);
        unknown("Ex>Ey&px;qy", 10, 0);

        promise(11);
        DiscourseContexts d = new DiscourseContexts();
        accept(d, "Ey");
        write(d, "py&px");
        due("unknownVariable in a context that knows y", d.unknownVariable(), 4);
        due("historySize", d.historySize(), 1);
        accept(d, "Ex&!(x=x)");
        due("contextSize", d.contextSize(), 0);
        write(d, "py&px");
        due("unknownVariable in an empty context", d.unknownVariable(), NONE);
        due("unknownDepth in an empty context", d.unknownDepth(), NONE);
        d.resetContext();
        due("unknownVariable behind resetContext", d.unknownVariable(), 1);
    }

    private static void unknownDepths() {
        unknown("!px", 2, 1);
        unknown("!!px", 3, 2);
        unknown("!(px)", 3, 1);
        unknown("!(px&qx)", 3, 1);
        unknown("(px)", 2, 0);
        unknown("px|qy", 1, 1);
        unknown("Ex&px|qy", 7, 1);
        unknown("(px|qy)|rz", 2, 2);
        unknown("Ex&px|qy|rz", 7, 1);
        unknown("Ex|Ex|Ex|rz", 10, 1);
        unknown("Ex|(Ex|rz)", 8, 2);
        unknown("(Ex|Ex)|rz", 9, 1);
        unknown("px>qx", 1, 1);
        unknown("Ex>qy", 4, 1);
        unknown("Ex>qx>ry", 7, 2);
        unknown("Ex>Ex>Ex>Ex>ry", 13, 4);
        unknown("Ex|px>qx", 4, 2);
        unknown("px|Ex>qx", 1, 2);
        unknown("Ex>Ex|py", 7, 2);
        unknown("!(px>!qy)", 3, 2);
        unknown("!(Ex>!qy)", 7, 3);
        unknown("Ex;!(Ex|!px>!qy)", 14, 3);
        unknown("[!(Ex>!qy)]", 8, 3);
        unknown("!!!!!!!!px", 9, 8);
        unknown("Ex&!(Ex|!(Ex|!(Ex|!(Ex|py))))", 24, 8);
    }

    private static void partCounts() {
        promise(13);
        due("partCount", written("Ex").partCount(), 1);
        due("partCount", written("Ex;px").partCount(), 2);
        due("partCount", written("[Ex];px;[qx]").partCount(), 3);
        due("partCount, unknown variables", written("px&qy|(rz>px);qx").partCount(), 2);
        due("partCount", written("Ex;Ex;Ex;Ex;Ex;Ex;Ex;Ex;Ex;Ex;Ex;Ex;Ex;Ex;Ex;Ex;Ex;Ex;Ex;Ex").partCount(), 20);
        due("partCount of the empty text", written("").partCount(), SYNTAX);
        due("partCount of a fault", written("Ex;").partCount(), SYNTAX);
    }

    private static void contextSizes() {
        promise(14);
        for (int individuals = 1; individuals <= 3; individuals++) {
            DiscourseContexts d = world(individuals);
            int all = (1 << individuals) - 1;
            due("first", d.contextSize(), 1);
            accept(d, "Ex");
            due("one variable", d.contextSize(), all);
            accept(d, "Ex");
            due("the same again", d.contextSize(), all);
            accept(d, "Ey;Ez");
            due("three variables", d.contextSize(), all * all * all);
            accept(d, "x=y");
            due("two equal", d.contextSize(), all * all);
            accept(d, "!(x=x)");
            due("none", d.contextSize(), 0);
        }
    }

    private static void known() {
        promise(15);
        DiscourseContexts d = new DiscourseContexts();
        due("known", d.known(), 0);
        accept(d, "Ez");
        due("known", d.known(), 4);
        accept(d, "!Ex&(Ey>Ex)&(Ex|Ey)");
        due("known behind scopes", d.known(), 4);
        accept(d, "[Ex]");
        due("known", d.known(), 5);
        accept(d, "(Ey&!(y=y))");
        due("known in an empty context", d.known(), 7);
        d.undo();
        due("known behind undo", d.known(), 5);
        d.resetContext();
        due("known behind resetContext", d.known(), 0);
        accept(d, "Ex");
        write(d, "Ey&");
        d.accept();
        write(d, "Ey;pz");
        d.accept();
        write(d, "Ey;[px]");
        due("accept", d.accept(), FAILS);
        due("known behind texts that were not accepted", d.known(), 1);
    }

    private static void objects() {
        promise(16);
        DiscourseContexts d = world(3);
        d.setPredicate(0, 5);
        due("objects(0)", d.objects(0), NONE);
        due("objects(-1)", d.objects(-1), INVALID);
        due("objects(3)", d.objects(3), INVALID);
        due("objects(least)", d.objects(LEAST), INVALID);
        due("objects(most)", d.objects(MOST), INVALID);
        accept(d, "Ex&px");
        due("objects(0)", d.objects(0), 1 << 1 | 1 << 4 | 1 << 5);
        due("objects(1)", d.objects(1), NONE);
        accept(d, "Ey&#2y&x<y");
        due("objects(0)", d.objects(0), 1 << 1 | 1 << 4 | 1 << 5);
        due("objects(1)", d.objects(1), 1 << 3 | 1 << 5 | 1 << 6);
        accept(d, "Ez");
        due("objects(2)", d.objects(2), 254);
        accept(d, "#3z&#1z");
        for (int variable = 0; variable < 3; variable++) due("objects of none", d.objects(variable), 0);
    }

    private static void together() {
        promise(17);
        DiscourseContexts d = world(2);
        due("nothing known", d.together(0, 1, 0, 1), NONE);
        accept(d, "Ex;Ey;x<y;Ez");
        due("x 1, y 3", d.together(0, 1, 1, 3), 3);
        due("y 3, x 1", d.together(1, 3, 0, 1), 3);
        due("x 3, y 1", d.together(0, 3, 1, 1), 0);
        due("x 1, y 2", d.together(0, 1, 1, 2), 0);
        due("x 1, z 2", d.together(0, 1, 2, 2), 2);
        due("z 2, y 3", d.together(2, 2, 1, 3), 3);
        due("x 1 twice", d.together(0, 1, 0, 1), 6);
        due("x 1 and 2", d.together(0, 1, 0, 2), 0);
        due("y 3 twice", d.together(1, 3, 1, 3), 9);
        due("z 3 twice", d.together(2, 3, 2, 3), 5);
        int[] noVariables = {-1, 3, LEAST, MOST};
        for (int variable : noVariables) {
            due("variable " + variable, d.together(variable, 1, 0, 1), INVALID);
            due("other " + variable, d.together(0, 1, variable, 1), INVALID);
        }
        int[] noObjects = {0, 4, 7, -1, LEAST, MOST};
        for (int object : noObjects) {
            due("object " + object, d.together(0, object, 1, 1), INVALID);
            due("otherObject " + object, d.together(0, 1, 1, object), INVALID);
        }
        d.resetContext();
        accept(d, "Ex");
        due("y not known", d.together(0, 1, 1, 1), NONE);
        due("y not known", d.together(1, 1, 0, 1), NONE);
        due("y not known, no object", d.together(1, 0, 0, 1), INVALID);
        due("y not known, no other object", d.together(1, 1, 0, 4), INVALID);
        due("known", d.together(0, 1, 0, 1), 1);
        accept(d, "#1x&#2x");
        due("empty", d.together(0, 1, 0, 1), 0);
    }

    private static void resetting() {
        promise(18);
        DiscourseContexts d = lived(2);
        due("resetContext", d.resetContext(), 3);
        due("contextSize", d.contextSize(), 1);
        due("known", d.known(), 0);
        due("objects(0)", d.objects(0), NONE);
        due("predicate(0)", d.predicate(0), 3);
        due("s", d.relationHolds(0, 1, 2), 1);
        due("accommodated", d.accommodated(), 1);
        due("accommodatedPart(0)", d.accommodatedPart(0), 1);
        due("historySize", d.historySize(), 5);
        due("length of the text", d.clearText(), 10);
        due("setAccommodation(1)", d.setAccommodation(1), 1);
        DiscourseContexts e = new DiscourseContexts();
        due("resetContext of the first one", e.resetContext(), 1);
        due("historySize", e.historySize(), 1);
        accept(e, "Ex&!(x=x)");
        due("resetContext of an empty one", e.resetContext(), 0);
        due("contextSize", e.contextSize(), 1);
        accept(e, "Ex;Ey;Ez");
        due("resetContext", e.resetContext(), 27);
    }

    private static void settingAccommodation() {
        promise(19);
        DiscourseContexts d = new DiscourseContexts();
        due("setAccommodation(1)", d.setAccommodation(1), 0);
        due("setAccommodation(1)", d.setAccommodation(1), 1);
        due("setAccommodation(0)", d.setAccommodation(0), 1);
        due("setAccommodation(0)", d.setAccommodation(0), 0);
        due("historySize", d.historySize(), 4);
        int[] outside = {-1, 2, LEAST, MOST};
        for (int on : outside) due("setAccommodation(" + on + ")", d.setAccommodation(on), INVALID);
        due("historySize", d.historySize(), 4);
        d.setPredicate(0, 1);
        accept(d, "Ex");
        write(d, "[px]");
        due("acceptable when off", d.acceptable(), FAILS);
        d.setAccommodation(1);
        due("acceptable when on", d.acceptable(), 1);
        d.undo();
        due("acceptable behind undo", d.acceptable(), FAILS);
    }

    private static void accepting() {
        promise(20);
        DiscourseContexts d = new DiscourseContexts();
        d.setPredicate(0, 1);
        due("empty text", d.accept(), SYNTAX);
        due("a fault ahead of an unknown variable", accept(d, "px&"), SYNTAX);
        due("an unknown variable", accept(d, "px"), UNKNOWN);
        due("an unknown variable behind a presupposition that fails", accept(d, "[Ex&!(x=x)];py"), UNKNOWN);
        due("historySize", d.historySize(), 1);
        due("Ex", accept(d, "Ex"), 3);
        due("historySize", d.historySize(), 2);
        due("the text stays", d.clearText(), 2);
        due("px", accept(d, "px"), 1);
        due("px again", d.accept(), 1);
        due("historySize, nothing changed", d.historySize(), 4);
        due("objects(0)", d.objects(0), 2);
        due("Ex once more", accept(d, "Ex"), 3);
        due("none", accept(d, "!(x=x)"), 0);
        due("contextSize", d.contextSize(), 0);
        due("none of none", accept(d, "Ey;[!(x=x)]"), 0);
        due("known", d.known(), 3);
        DiscourseContexts e = world(3);
        due("all assignments", accept(e, "Ex;Ey;Ez"), 343);
        due("parts one behind the other", accept(e, "x<y;y<z;#1x;#2y;#3z"), 6);
        due("renewed", accept(e, "Ex"), 21);
    }

    private static void acceptingPresuppositions() {
        promise(20);
        DiscourseContexts d = new DiscourseContexts();
        d.setPredicate(0, 1);
        due("a supported one that makes known", accept(d, "[Ex&px]"), 1);
        due("objects(0)", d.objects(0), 2);
        due("a supported one", accept(d, "[px]"), 1);
        due("one that has no results", accept(d, "[#2x]"), FAILS);
        accept(d, "Ex");
        due("one that has results for some", accept(d, "[px]"), FAILS);
        due("contextSize", d.contextSize(), 3);
        due("historySize", d.historySize(), 4);
        due("a part ahead makes it supported", accept(d, "px;[px]"), 1);
        d.undo();
        d.setAccommodation(1);
        due("accommodated", accept(d, "[px]"), 1);
        due("objects(0)", d.objects(0), 2);
        due("no results, accommodation on", accept(d, "[#2x]"), FAILS);
        due("accommodated stays", d.accommodated(), 1);
        due("an empty context supports", accept(d, "#2x;[px]"), 0);
        due("nothing accommodated", d.accommodated(), 0);
        DiscourseContexts e = new DiscourseContexts();
        due("brackets with results for some, off", accept(e, "Ex;[#1x];[#2x]"), FAILS);
        e.setAccommodation(1);
        due("no results behind another part", accept(e, "Ex;[#1x];[#2x]"), FAILS);
        due("known", e.known(), 0);
        due("results of a presupposition", accept(e, "Ex;[Ey&x<y&!(x=y)]"), 2);
        due("accommodatedPart(0)", e.accommodatedPart(0), 1);
    }

    private static void acceptable() {
        promise(21);
        DiscourseContexts d = new DiscourseContexts();
        d.setPredicate(0, 1);
        due("empty text", d.acceptable(), SYNTAX);
        due("fault", write(d, "px&").acceptable(), SYNTAX);
        due("unknown variable", write(d, "[Ex&!(x=x)];py").acceptable(), UNKNOWN);
        due("Ex", write(d, "Ex").acceptable(), 3);
        due("contextSize", d.contextSize(), 1);
        due("known", d.known(), 0);
        due("historySize", d.historySize(), 1);
        due("a presupposition fails", write(d, "Ex;[px]").acceptable(), FAILS);
        d.setAccommodation(1);
        due("it is accommodated", d.acceptable(), 1);
        due("accommodated", d.accommodated(), 0);
        due("historySize", d.historySize(), 2);
        due("accept", d.accept(), 1);
        due("no results", write(d, "!px").acceptable(), 0);
    }

    private static void failing() {
        promise(22);
        DiscourseContexts d = new DiscourseContexts();
        d.setPredicate(0, 1);
        due("empty text", d.failingAt(), SYNTAX);
        due("fault", write(d, "[px").failingAt(), SYNTAX);
        due("unknown variable", write(d, "[px]").failingAt(), UNKNOWN);
        due("unknown variable behind one that fails", write(d, "Ex;[px];py").failingAt(), UNKNOWN);
        due("none", write(d, "Ex").failingAt(), NONE);
        due("the first part", write(d, "[Ex&#3x]").failingAt(), 0);
        due("the second part", write(d, "Ex;[px]").failingAt(), 3);
        due("the first of two", write(d, "Ex;[px];[!px]").failingAt(), 3);
        due("the second of two", write(d, "Ex;[x=x];[!px]").failingAt(), 9);
        due("supported", write(d, "Ex;px;[px]").failingAt(), NONE);
        due("an empty context supports", write(d, "Ex;!(x=x);[px]").failingAt(), NONE);
        d.setAccommodation(1);
        due("accommodated", write(d, "Ex;[px]").failingAt(), NONE);
        due("accommodated ahead", write(d, "Ex;[px];[!px]").failingAt(), 8);
        due("accommodated", d.accommodated(), 0);
        due("historySize", d.historySize(), 2);
        due("contextSize", d.contextSize(), 1);
    }

    private static void accommodated() {
        promise(23);
        DiscourseContexts d = new DiscourseContexts();
        d.setPredicate(0, 1);
        d.setAccommodation(1);
        due("accommodated", d.accommodated(), 0);
        accept(d, "Ex;Ey;[px];[py]");
        due("two", d.accommodated(), 2);
        accept(d, "Ez;[px]");
        due("none, supported", d.accommodated(), 0);
        d.undo();
        due("behind undo", d.accommodated(), 2);
        d.resetContext();
        due("behind resetContext", d.accommodated(), 2);
        d.setIndividuals(3);
        due("behind setIndividuals", d.accommodated(), 2);
        d.setAccommodation(0);
        due("behind setAccommodation", d.accommodated(), 2);
        due("not accepted", accept(d, "Ex;[#1x]"), FAILS);
        due("behind a text that was not accepted", d.accommodated(), 2);
        write(d, "Ex;Ex").acceptable();
        due("behind acceptable", d.accommodated(), 2);
        accept(d, "Ex");
        due("behind another text", d.accommodated(), 0);
    }

    private static void accommodatedParts() {
        promise(24);
        DiscourseContexts d = new DiscourseContexts();
        d.setAccommodation(1);
        due("accommodatedPart(0)", d.accommodatedPart(0), NONE);
        due("accommodatedPart(-1)", d.accommodatedPart(-1), INVALID);
        due("accept", accept(d, "[Ex];[#1x];[x=x];Ey;[#2y];[x<y];[Ey&#1y]"), 4);
        due("accommodated", d.accommodated(), 2);
        due("accommodatedPart(0)", d.accommodatedPart(0), 1);
        due("accommodatedPart(1)", d.accommodatedPart(1), 4);
        due("accommodatedPart(2)", d.accommodatedPart(2), NONE);
        due("accommodatedPart(most)", d.accommodatedPart(MOST), NONE);
        due("accommodatedPart(-1)", d.accommodatedPart(-1), INVALID);
        due("accommodatedPart(least)", d.accommodatedPart(LEAST), INVALID);
        d.clearText();
        d.resetContext();
        d.setIndividuals(1);
        due("accommodatedPart(1)", d.accommodatedPart(1), 4);
        accept(d, "Ex");
        due("accommodatedPart(0)", d.accommodatedPart(0), NONE);
        d.undo();
        due("accommodatedPart(0) behind undo", d.accommodatedPart(0), 1);
        d.setIndividuals(2);
        due("accept", accept(d, "Ex;Ex;Ex;Ex;Ex;Ex;Ex;Ex;Ex;Ex;Ex;Ex;Ex;Ex;Ex;Ex;[#1x]"), 2);
        due("accommodatedPart(0), late", d.accommodatedPart(0), 16);
        accept(d, "Ex");
        due("accept", accept(d, "[#1x];[#1x];[x<x]"), 2);
        due("accommodatedPart(0), the first part", d.accommodatedPart(0), 0);
        due("accommodatedPart(1)", d.accommodatedPart(1), NONE);
    }

    private static void sizesBehind() {
        promise(25);
        DiscourseContexts d = new DiscourseContexts();
        due("sizeBehind(-1) of the empty text", d.sizeBehind(-1), INVALID);
        due("sizeBehind(least)", d.sizeBehind(LEAST), INVALID);
        due("sizeBehind(0) of the empty text", d.sizeBehind(0), SYNTAX);
        due("unknown variable of the whole text", write(d, "Ex;py").sizeBehind(1), UNKNOWN);
        due("unknown variable, too many parts", d.sizeBehind(9), UNKNOWN);
        write(d, "Ex;Ey;[x<y];!(x=y);[#2y&#1y];Ex");
        int[] sizes = {1, 3, 9, 5, 2, 0, 0};
        for (int parts = 0; parts < sizes.length; parts++) due("sizeBehind(" + parts + ")", d.sizeBehind(parts), sizes[parts]);
        due("sizeBehind(7)", d.sizeBehind(7), NONE);
        due("sizeBehind(most)", d.sizeBehind(MOST), NONE);
        due("sizeBehind(-1)", d.sizeBehind(-1), INVALID);
        due("contextSize", d.contextSize(), 1);
        due("historySize", d.historySize(), 0);
        accept(d, "Ex;Ey");
        due("sizeBehind(0)", write(d, "x=y").sizeBehind(0), 9);
        due("sizeBehind(1)", d.sizeBehind(1), 3);
        due("sizeBehind(2)", d.sizeBehind(2), NONE);
    }

    private static void supporting() {
        promise(26);
        DiscourseContexts d = new DiscourseContexts();
        d.setPredicate(0, 1);
        due("empty text", d.supports(), SYNTAX);
        due("fault", write(d, "py|").supports(), SYNTAX);
        due("unknown variable", write(d, "py").supports(), UNKNOWN);
        due("Ex&px", write(d, "Ex&px").supports(), 1);
        due("Ex;px", write(d, "Ex;px").supports(), 1);
        due("Ex;[px]", write(d, "Ex;[px]").supports(), 1);
        due("Ex;px;!px", write(d, "Ex;px;!px").supports(), 0);
        due("Ex&!(x=x)", write(d, "Ex&!(x=x)").supports(), 0);
        accept(d, "Ex");
        due("px holds for some", write(d, "px").supports(), 0);
        due("Ey;x<y;py holds for some", write(d, "Ey;x<y;py").supports(), 0);
        due("Ey;x<y", write(d, "Ey;x<y").supports(), 1);
        due("[#1x]", write(d, "[#1x]").supports(), 0);
        accept(d, "px");
        due("px", write(d, "px").supports(), 1);
        accept(d, "!px");
        due("an empty context supports", write(d, "!(x=x)").supports(), 1);
        due("historySize", d.historySize(), 4);
    }

    private static void worldsTrue() {
        promise(27);
        int[] worlds = {4, 16, 64};
        for (int individuals = 1; individuals <= 3; individuals++) {
            DiscourseContexts d = world(individuals);
            int sets = 1 << individuals;
            due("Ex", write(d, "Ex").worldsTrue(), worlds[individuals - 1]);
            due("Ex&!(x=x)", write(d, "Ex&!(x=x)").worldsTrue(), 0);
            due("Ex&px", write(d, "Ex&px").worldsTrue(), (sets - 1) * sets);
            due("Ex;qx", write(d, "Ex;qx").worldsTrue(), (sets - 1) * sets);
            due("Ex>px", write(d, "Ex>px").worldsTrue(), sets);
            due("!(Ex&px)", write(d, "!(Ex&px)").worldsTrue(), sets);
            due("!(Ey&py)", write(d, "!(Ey&py)").worldsTrue(), sets);
            due("!(Ez&pz)", write(d, "!(Ez&pz)").worldsTrue(), sets);
            due("Ez&!(Ex&sxz)", write(d, "Ez&!(Ex&sxz)").worldsTrue(), sets * sets);
            due("Ez&!(Ey&syz)", write(d, "Ez&!(Ey&syz)").worldsTrue(), sets * sets);
            due("Ex&!(Ez&szx)", write(d, "Ex&!(Ez&szx)").worldsTrue(), sets * sets);
            due("Ex&rx", write(d, "Ex&rx").worldsTrue(), 0);
            d.setPredicate(2, 1);
            due("Ex&rx", write(d, "Ex&rx").worldsTrue(), sets * sets);
            due("Ex&rx&qx", write(d, "Ex&rx&qx").worldsTrue(), sets * sets / 2);
        }
        DiscourseContexts d = new DiscourseContexts();
        due("empty text", d.worldsTrue(), SYNTAX);
        due("fault", write(d, "px>").worldsTrue(), SYNTAX);
        d.setPredicate(0, 2);
        d.setPredicate(1, 1);
        d.setPair(0, 0, 1, 1);
        accept(d, "Ex&#1x");
        due("x is known in the context alone", write(d, "px").worldsTrue(), UNKNOWN);
        due("presuppositions are formulas", write(d, "Ex;[#1x&px];[#2x|qx]").worldsTrue(), 7);
        due("relations stay", write(d, "Ex&Ey&sxy&px&qy").worldsTrue(), 4);
        due("predicate(0)", d.predicate(0), 2);
        due("predicate(1)", d.predicate(1), 1);
        due("contextSize", d.contextSize(), 2);
        due("historySize", d.historySize(), 4);
        accept(d, "!(x=x)");
        due("the first context, not the empty one", write(d, "Ex&px").worldsTrue(), 12);
    }

    private static void historySizes() {
        promise(28);
        DiscourseContexts d = new DiscourseContexts();
        int[] sizes = {1, 2, 3, 4, 5, 5, 5};
        due("historySize", d.historySize(), 0);
        for (int size : sizes) {
            d.resetContext();
            due("historySize", d.historySize(), size);
        }
        d.undo();
        due("historySize behind undo", d.historySize(), 4);
        d.resetContext();
        due("historySize", d.historySize(), 5);
        for (int left = 4; left >= 0; left--) {
            d.undo();
            due("historySize behind undo", d.historySize(), left);
        }
        d.undo();
        due("historySize", d.historySize(), 0);
        d.type('E');
        d.clearText();
        d.individuals();
        due("historySize behind calls that are no actions", d.historySize(), 0);
    }

    private static void undoing() {
        promise(29);
        DiscourseContexts d = new DiscourseContexts();
        due("undo of nothing", d.undo(), ILLEGAL);
        for (int set = 1; set <= 7; set++) d.setPredicate(0, set % 4);
        int[] sets = {2, 1, 0, 3, 2};
        for (int i = 0; i < 5; i++) {
            due("undo", d.undo(), 4 - i);
            due("predicate(0)", d.predicate(0), sets[i]);
        }
        due("undo of nothing", d.undo(), ILLEGAL);
        due("predicate(0)", d.predicate(0), 2);
        d.setPredicate(0, 3);
        d.setPredicate(0, 1);
        due("undo", d.undo(), 1);
        d.setPredicate(0, 0);
        due("undo", d.undo(), 1);
        due("predicate(0)", d.predicate(0), 3);
        due("undo", d.undo(), 0);
        due("predicate(0)", d.predicate(0), 2);
    }

    private static void undoingEachAction() {
        promise(29);
        Made lived = () -> lived(2);
        acted("setIndividuals(3)", lived, d -> d.setIndividuals(3), 2);
        acted("setPredicate(0, 2)", lived, d -> d.setPredicate(0, 2), 3);
        acted("setPair(1, 1, 0, 1)", lived, d -> d.setPair(1, 1, 0, 1), 0);
        acted("resetContext()", lived, DiscourseContexts::resetContext, 3);
        acted("setAccommodation(0)", lived, d -> d.setAccommodation(0), 1);
        acted("accept()", lived, DiscourseContexts::accept, 3);
        DiscourseContexts d = lived(2);
        d.setIndividuals(1);
        write(d, "Ez");
        d.undo();
        due("the text is no part of a state", d.clearText(), 2);
    }

    private static int objectsBehind(int individuals, String text) {
        DiscourseContexts d = world(individuals);
        for (int predicate = 0; predicate < 3; predicate++) d.setPredicate(predicate, (predicate + 3) & (1 << individuals) - 1);
        accept(d, text);
        return d.objects(0);
    }

    /** With three individuals the sets of p, q and r are 3 (0 and 1), 4 (2) and 5 (0 and 2). */
    private static void meaningOfUnits() {
        promise(20);
        due("Ex", objectsBehind(3, "Ex"), 254);
        due("px", objectsBehind(3, "Ex&px"), 1 << 1 | 1 << 2 | 1 << 3);
        due("qx", objectsBehind(3, "Ex&qx"), 1 << 4);
        due("rx", objectsBehind(3, "Ex&rx"), 1 << 1 | 1 << 4 | 1 << 5);
        due("#1x", objectsBehind(3, "Ex&#1x"), 1 << 1 | 1 << 2 | 1 << 4);
        due("#2x", objectsBehind(3, "Ex&#2x"), 1 << 3 | 1 << 5 | 1 << 6);
        due("#3x", objectsBehind(3, "Ex&#3x"), 1 << 7);
        due("x<y", objectsBehind(3, "Ey&py&#2y&Ex&x<y"), 1 << 1 | 1 << 2 | 1 << 3);
        due("y<x", objectsBehind(3, "Ey&py&#2y&Ex&y<x"), 1 << 3 | 1 << 7);
        due("x=z", objectsBehind(3, "Ez&qz&Ex&x=z"), 1 << 4);
        due("x<x", objectsBehind(3, "Ex&x<x"), 254);
        due("x=x", objectsBehind(1, "Ex&x=x"), 2);
        DiscourseContexts d = world(3);
        d.setPair(0, 0, 1, 1);
        d.setPair(0, 2, 1, 1);
        d.setPair(1, 1, 1, 1);
        accept(d, "Ex&Ey&sxy");
        due("sxy", d.contextSize(), 3);
        due("x", d.objects(0), 1 << 1 | 1 << 4 | 1 << 5);
        due("y", d.objects(1), 1 << 2);
        accept(d, "Ez&szy");
        due("szy", d.objects(2), 1 << 1 | 1 << 4 | 1 << 5);
        accept(d, "syz");
        due("syz", d.contextSize(), 0);
        d.resetContext();
        accept(d, "Ez&tzz");
        due("tzz", d.objects(2), 1 << 2);
    }

    private static void meaningOfSigns() {
        promise(20);
        due("!", objectsBehind(3, "Ex&!px"), 254 - (1 << 1 | 1 << 2 | 1 << 3));
        due("!!", objectsBehind(3, "Ex&!!px"), 1 << 1 | 1 << 2 | 1 << 3);
        due("! binds a unit", objectsBehind(3, "Ex&!px&qx"), 1 << 4);
        due("! of a group", objectsBehind(3, "Ex&!(px&#1x)"), 254 - (1 << 1 | 1 << 2));
        due("|", objectsBehind(3, "Ex&(px|qx)"), 1 << 1 | 1 << 2 | 1 << 3 | 1 << 4);
        due("| of three", objectsBehind(3, "Ex&(px&#2x|qx|#3x)"), 1 << 3 | 1 << 4 | 1 << 7);
        due(">", objectsBehind(3, "Ex&(px>#2x)"), 254 - (1 << 1 | 1 << 2));
        due("> chained", objectsBehind(3, "Ex&(px>#2x>qx)"), 254 - (1 << 3));
        due("> grouped", objectsBehind(3, "Ex&((px>#2x)>qx)"), 1 << 1 | 1 << 2 | 1 << 4);
        due("> of each result", objectsBehind(3, "Ex&(Ey&y<x&#1y>py)"), 1 << 1 | 1 << 2 | 1 << 3);
        due("> behind a choice", objectsBehind(3, "Ex&(px|qx>#1x)"), 254 - (1 << 3));
        due("> has results if there is one", objectsBehind(3, "Ex&(px>Ey&qy&#1x)"), 254 - (1 << 3));
        due("E renewed in a scope stays there", objectsBehind(3, "Ex&qx&!(Ex&#3x&px)"), 1 << 4);
        due("E renewed", objectsBehind(3, "Ex&qx&Ex&#2x"), 1 << 3 | 1 << 5 | 1 << 6);
        due("a choice keeps the assignment", objectsBehind(3, "Ex&qx&(Ex&px|Ex&rx)"), 1 << 4);
        due("a condition keeps the assignment", objectsBehind(3, "Ex&qx&(Ex&px>Ex)"), 1 << 4);
        due("a group gives its results on", objectsBehind(3, "(Ex&(px&#2x))"), 1 << 3);
        DiscourseContexts d = world(2);
        due("a scope makes nothing known", accept(d, "!(Ex&!(x=x))&(Ex|Ey)&(Ez>z=z)"), 1);
        due("known", d.known(), 0);
        due("| has results once", accept(d, "(Ex|Ey)"), 1);
        due("rows ahead of a >", accept(d, "Ex;Ey;#1x&#1y>x=y"), 7);
    }

    /** Going through these assignment by assignment would not end. */
    private static void textsThatBlowUp() {
        promise(27);
        DiscourseContexts d = world(3);
        write(d, "Ex&Ey&Ez>Ex&Ey&Ez>Ex&Ey&Ez>Ex&Ey&Ez>Ex&Ey&Ez>Ex&Ey&Ez>x=x");
        due("worldsTrue", d.worldsTrue(), 64);
        due("supports", d.supports(), 1);
        due("accept", d.accept(), 1);
        write(d, "!(Ex&Ey&Ez&!(Ex&Ey&Ez&!(Ex&Ey&Ez&!(Ex&Ey&Ez&!(x=x)))))");
        due("syntaxFault", d.syntaxFault(), 44);
        write(d, "!(Ex&Ey&Ez&!(Ex&Ey&Ez&!(Ex&Ey&Ez&!(Ex&Ey&Ez&x=z))))");
        due("worldsTrue", d.worldsTrue(), 64);
        due("accept", d.accept(), 1);
        write(d, "Ex;Ey;Ez;[Ex>Ey>Ez>Ex>Ey>Ez>Ex>Ey>Ez&x<z&y<z]");
        due("acceptable", d.acceptable(), 343);
        write(d, "((((((((Ex|Ex)>x=x|Ex)|Ex)|Ex)|Ex)|Ex)|Ex)|Ex)|Ex");
        due("unknownVariable", d.unknownVariable(), 15);
    }
}
