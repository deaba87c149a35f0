/** The sentences of promises 8 to 13, and of "Texts" and "Meaning" (what is known), that name a boundary case: a test for each. */
public final class TextBoundaryTests extends Checks {
    private static final String UNIT = "!(Epqrstxyz#";
    /** Of the characters that a unit can begin with, those that open no sign. */
    private static final String CLOSED_UNIT = UNIT.substring(2);
    private static final String VARIABLE = "xyz";
    /** 57 characters in which no variable is unknown; three more fill the text. */
    private static final String NEARLY_FULL = "Ex;Ex;Ex;Ex;Ex;Ex;Ex;Ex;Ex;Ex;Ex;Ex;Ex;Ex;Ex;Ex;Ex;Ex;Ex;";

    public static void main(String[] arguments) {
        charactersFrom32To126();
        typeRefuses();
        typeTellsTheLength();
        atMost60Characters();
        typeRefusesAWrongCharacterFirst();
        typeAndClearTextAreNoActions();
        clearTextTellsTheLength();
        eachSignAtEachPlace();
        noBlanks();
        faultAtTheFirstCharacter();
        theEmptyTextEndsTooEarly();
        textsThatEndTooEarly();
        theFullText();
        theFirstOfSeveralFaults();
        eightSignsAreOpen();
        theNinthSignIsTheFault();
        negationsCloseWithTheirUnit();
        bracketsClose();
        conditionsCloseWithTheFormulaBehind();
        noOtherSignIsCounted();
        syntaxFaultChangesNothing();
        unknownInAFaultyText();
        unknownAtTheEndsOfTheText();
        theFirstUnknownVariable();
        eachVariableIsUnknownOrKnown();
        knownInAContextWithoutAssignments();
        knownFromThereOn();
        knownBehindAGroup();
        knownAheadOfTheFormulaBehindACondition();
        knownAheadOfEachRow();
        knownBehindScopes();
        depthOfNothingUnknown();
        depthWithoutScopes();
        depthOfNegations();
        depthOfRows();
        depthOfConditions();
        depthAtTheMost();
        partCountRefuses();
        partCountFromOneToTwenty();
        finish();
    }

    // ---- promise 8

    private static void charactersFrom32To126() {
        promise(8, "`character`: 32 to 126");
        for (int character = 32; character <= 126; character++) {
            due("type(" + character + ")", new DiscourseContexts().type(character), 1);
            due("type(" + character + ") as the 60th", write(new DiscourseContexts(), NEARLY_FULL + "sx").type(character), 60);
        }
    }

    private static void typeRefuses() {
        promise(8, "INVALID_ARGUMENT if character is out of range");
        for (int character : outside(32, 126)) {
            refused("type(" + character + ")", DiscourseContexts::new, d -> d.type(character), INVALID);
            for (int n : WORLDS) refused("type(" + character + ")", () -> lived(n), d -> d.type(character), INVALID);
        }
        // A cast to char or byte would take these for the x.
        refused("type(256 + 'x')", DiscourseContexts::new, d -> d.type(256 + 'x'), INVALID);
        refused("type(65536 + 'x')", DiscourseContexts::new, d -> d.type(65536 + 'x'), INVALID);
        refused("type('x' - 65536)", DiscourseContexts::new, d -> d.type('x' - 65536), INVALID);
    }

    private static void typeTellsTheLength() {
        promise(8, "Appends a character to the text. Returns the length of the text then");
        DiscourseContexts d = new DiscourseContexts();
        String text = NEARLY_FULL + "x=x";
        for (int i = 0; i < 60; i++) due("type(..)", d.type(text.charAt(i)), i + 1);
        due("accept()", d.accept(), 3);
        due("partCount()", d.partCount(), 20);
    }

    private static void atMost60Characters() {
        promise(8, "CAPACITY_EXCEEDED if the text has 60 characters");
        for (int character : new int[] {32, '&', 'x', 126}) {
            refused("type(" + character + ")", () -> written(NEARLY_FULL + "sxy"), d -> d.type(character), FULL);
            refused("type(" + character + ")", () -> write(lived(3), NEARLY_FULL + "x<x"), d -> d.type(character), FULL);
            due("type(" + character + ") as the 60th", write(lived(3), NEARLY_FULL + "x<").type(character), 60);
        }
        DiscourseContexts d = written(NEARLY_FULL + "x=x");
        due("type('x')", d.type('x'), FULL);
        due("type('x') again", d.type('x'), FULL);
        due("clearText()", d.clearText(), 60);
        due("type('x') behind clearText()", d.type('x'), 1);
        for (int length = 2; length <= 60; length++) due("type('x')", d.type('x'), length);
        due("type('x') when it is full again", d.type('x'), FULL);
    }

    private static void typeRefusesAWrongCharacterFirst() {
        promise(8, "If several error conditions apply, the method returns the one that its description lists first");
        for (int character : outside(32, 126)) {
            refused("type(" + character + ") into a full text", () -> written(NEARLY_FULL + "x=x"), d -> d.type(character), INVALID);
        }
    }

    private static void typeAndClearTextAreNoActions() {
        promise(9, "a state is everything but the text and the history (type and clearText are no actions)");
        for (int n : WORLDS) {
            DiscourseContexts d = lived(n);
            int known = d.known();
            d.type('x');
            due("historySize() behind type(..)", d.historySize(), 5);
            d.clearText();
            due("historySize() behind clearText()", d.historySize(), 5);
            due("known() behind clearText()", d.known(), known);
            d.undo();
            due("clearText() behind undo()", d.clearText(), 0);
        }
        DiscourseContexts d = written("Ex");
        due("historySize() behind type(..)", d.historySize(), 0);
        d.clearText();
        due("historySize() behind clearText()", d.historySize(), 0);
    }

    // ---- promise 9

    private static void clearTextTellsTheLength() {
        promise(9, "Empties the text. Returns the length that it had");
        String full = NEARLY_FULL + "x=x";
        for (int length = 0; length <= 60; length++) {
            DiscourseContexts d = written(full.substring(0, length));
            due("clearText()", d.clearText(), length);
            due("syntaxFault() behind it", d.syntaxFault(), 0);
            due("clearText() again", d.clearText(), 0);
            due("type('E') behind it", d.type('E'), 1);
        }
    }

    // ---- promise 10

    private static void fault(String text, int want) {
        due("syntaxFault() of " + text, written(text).syntaxFault(), want);
    }

    /** Of all characters that can be typed behind a sound beginning, only the ones named can stand there. */
    private static void standBehind(String beginning, String signs) {
        int length = beginning.length();
        for (char c = 32; c <= 126; c++) {
            int got = written(beginning + c).syntaxFault();
            boolean stands = signs.indexOf(c) >= 0;
            // Behind a character that can stand the text is a discourse, or ends too early.
            int want = !stands ? length : got == NONE ? NONE : length + 1;
            due("syntaxFault() of " + beginning + c, got, want);
        }
        // A discourse is what a ";" can stand behind.
        fault(beginning, signs.indexOf(';') >= 0 ? NONE : length);
    }

    private static void eachSignAtEachPlace() {
        promise(10, "the index of the first character that cannot stand at its place");
        standBehind("", "[" + UNIT);
        standBehind("[", UNIT);
        standBehind("px;", "[" + UNIT);
        standBehind("[px];", "[" + UNIT);
        for (String beginning : new String[] {"!", "(", "[(", "px&", "px|", "px>", "[px&", "(px|", "px&qx|", "px|qx>", "px>qx>", "px>qx|"}) {
            standBehind(beginning, UNIT);
        }
        for (String beginning : new String[] {"E", "p", "q", "r", "s", "t", "sx", "ty", "x=", "y<", "z=", "#1", "#2", "#3", "!E", "(p", "[s", "px;tz"}) {
            standBehind(beginning, VARIABLE);
        }
        for (String beginning : new String[] {"x", "y", "z", "!x", "(y", "[z", "px&x"}) standBehind(beginning, "=<");
        for (String beginning : new String[] {"#", "!#", "(#", "[#", "px;#"}) standBehind(beginning, "123");
        for (String unit : new String[] {"Ex", "py", "qz", "rx", "sxy", "tzz", "x=y", "y<y", "#1x", "#2y", "#3z", "!px", "!!qx", "(px)", "!(px)", "((px|qx))"}) {
            standBehind(unit, "&|>;");
            standBehind("px&" + unit, "&|>;");
            standBehind("px|" + unit, "&|>;");
            standBehind("px>" + unit, "&|>;");
            standBehind("[" + unit, "&|>]");
            standBehind("(" + unit, "&|>)");
            standBehind("!(" + unit, "&|>)");
            standBehind("[(" + unit, "&|>)");
            standBehind("[qx>" + unit, "&|>]");
            standBehind("(qx>" + unit, "&|>)");
            standBehind("[" + unit + "]", ";");
            standBehind("Ez;[" + unit + "]", ";");
        }
    }

    private static void noBlanks() {
        promise(10, "There are no blanks");
        fault(" px", 0);
        fault("p x", 1);
        fault("px &qx", 2);
        fault("px& qx", 3);
        fault("px; qx", 3);
        fault("[ px]", 1);
        fault("[px] ", 4);
        fault("px ", 2);
        fault(" ", 0);
    }

    private static void faultAtTheFirstCharacter() {
        promise(10, "the index, from 0, of the first character that cannot stand at its place");
        for (char c = 32; c <= 126; c++) {
            if (("[" + UNIT).indexOf(c) < 0) {
                fault("" + c, 0);
                fault(c + "px", 0);
            }
        }
    }

    private static void theEmptyTextEndsTooEarly() {
        promise(10, "the length of the text if it ends too early (as the empty text does)");
        asked("syntaxFault() of the empty text", DiscourseContexts::new, DiscourseContexts::syntaxFault, 0);
        for (int n : WORLDS) asked("syntaxFault() of the empty text", () -> write(lived(n), ""), DiscourseContexts::syntaxFault, 0);
    }

    private static void textsThatEndTooEarly() {
        promise(10, "the length of the text if it ends too early");
        String[] early = {"E", "p", "s", "sx", "x", "x=", "x<", "#", "#3", "!", "!!!!!!!!", "(", "((((((((", "(px", "((px)", "[", "[px", "[(px)",
            "px&", "px|", "px>", "px;", "[px];", "(px&", "[px|", "[px>", "px;[", "px&(qx|", "!(", "!E", "px>qx>"};
        for (String text : early) fault(text, text.length());
    }

    private static void theFullText() {
        promise(10, "one text of at most 60 characters; the syntax fault of a text is .. or the length of the text");
        for (String unit : new String[] {"sxy", "x=x", "#1x", "!px", "z<y"}) fault(NEARLY_FULL + unit, NONE);
        for (String unit : new String[] {"Ex&", "Ex|", "Ex>", "Ex;", "(px", "[px", "!!!", "px#", "!sx", "((("}) {
            boolean early = unit.charAt(2) != '#';
            fault(NEARLY_FULL + unit, early ? 60 : 59);
        }
        fault(NEARLY_FULL + "Exx", 59);
        fault(NEARLY_FULL + "Ex)", 59);
        fault(NEARLY_FULL + "Ex]", 59);
        fault(NEARLY_FULL + "x==", 59);
        fault(NEARLY_FULL + "#4x", 58);
        fault(NEARLY_FULL + "&px", 57);
        fault("&" + NEARLY_FULL + "Ex", 0);
        fault("!!!!!!!!(" + NEARLY_FULL.substring(0, 51), 8);
        fault("((((((((" + "Ex&Ex&Ex&Ex&Ex&Ex&Ex&Ex&Ex&Ex&Ex&Ex&Ex&Ex&Ex" + "))))))))", NONE);
        fault("[((((((((" + "Ex&Ex&Ex&Ex&Ex&Ex&Ex&Ex&Ex&Ex&Ex&Ex&Ex&Ex" + "))))))))]", NONE);
        fault("((((((((" + "Ex&Ex&Ex&Ex&Ex&Ex&Ex&Ex&Ex&Ex&Ex&Ex&Ex&sxy" + "))))))))", NONE);
        fault("((((((((" + "Ex&Ex&Ex&Ex&Ex&Ex&Ex&Ex&Ex&Ex&Ex&Ex&Ex&Ex&sxy" + ")))))))", 60);
    }

    private static void theFirstOfSeveralFaults() {
        promise(10, "the first character that cannot stand at its place");
        fault("px)qx)", 2);
        fault("px&&qx)", 3);
        fault("#4x #5x", 1);
        fault("!!!!!!!!!px)", 8);
        fault("px)!!!!!!!!!px", 2);
        fault("(px]&", 3);
    }

    // ---- promise 10: open signs

    private static void eightSignsAreOpen() {
        promise(10, "At most 8 of the signs '!', '(' and '>' can be open at once: eight");
        fault("!!!!!!!!px", NONE);
        fault("((((((((px))))))))", NONE);
        fault("px>px>px>px>px>px>px>px>px", NONE);
        fault("!(!(!(!(px))))", NONE);
        fault("px>(px>(px>(px>(px))))", NONE);
        fault("px>!px>!px>!px>!px>!px>!px>!px>px", NONE);
        fault("!(px>!(px>!(px)))", NONE);
        fault("((((px>px>px>px>px))))", NONE);
        fault("px>px>px>px>!!!!px", NONE);
        fault("px>px>px>px>((((px))))", NONE);
        fault("[!!!!!!!!px]", NONE);
        fault("[((((((((px))))))))]", NONE);
        fault("[px>px>px>px>px>px>px>px>px]", NONE);
        standBehind("!!!!!!!", UNIT);
        standBehind("(((((((", UNIT);
        standBehind("(((((((px", "&|>)");
        standBehind("px>px>px>px>px>px>px>px", "&|>;");
    }

    private static void theNinthSignIsTheFault() {
        promise(10, "also of a ninth open sign");
        standBehind("!!!!!!!!", CLOSED_UNIT);
        standBehind("((((((((", CLOSED_UNIT);
        standBehind("((((((((px", "&|)");
        standBehind("((((((((px&", CLOSED_UNIT);
        standBehind("((((((((px|", CLOSED_UNIT);
        standBehind("[((((((((px", "&|)");
        standBehind("px>px>px>px>px>px>px>px>", CLOSED_UNIT);
        standBehind("px>px>px>px>px>px>px>px>px", "&|;");
        standBehind("px>px>px>px>px>px>px>px>px&", CLOSED_UNIT);
        standBehind("[px>px>px>px>px>px>px>px>px", "&|]");
        standBehind("!(!(!(!(", CLOSED_UNIT);
        standBehind("!(!(!(!(px", "&|)");
        standBehind("px>(px>(px>(px>(", CLOSED_UNIT);
        standBehind("px>(px>(px>(px>(px", "&|)");
        standBehind("px>!(px>!(px>!", CLOSED_UNIT);
        standBehind("!(px>!(px>!(px", "&|)");
    }

    private static void negationsCloseWithTheirUnit() {
        promise(10, "a '!' is open until its unit ends");
        standBehind("!!!!!!!!px", "&|>;");
        standBehind("!!!!!!!(px)", "&|>;");
        standBehind("!!!!!!!(px", "&|)");
        standBehind("!!!!!!!(px&", CLOSED_UNIT);
        standBehind("!!!!!!(px&", UNIT);
        standBehind("!!!!!!(px&!", CLOSED_UNIT);
        standBehind("!!!!!!(!px&", UNIT);
        fault("!!!!!!!!px&!!!!!!!!px|!!!!!!!!px;!!!!!!!!px", NONE);
        fault("!!!!!!!!px&!!!!!!!!!px", 19);
        fault("!!!!!!!!px>!!!!!!!px", NONE);
        fault("!!!!!!!!px>!!!!!!!!px", 18);
        fault("!!!!!!!(px)&((((((((px))))))))", NONE);
        fault("(!!!!!!!px&!!!!!!!px)", NONE);
        fault("(!!!!!!!px&!!!!!!!!px)", 18);
    }

    private static void bracketsClose() {
        promise(10, "a '(' until its ')'");
        standBehind("((((((((px))))))))", "&|>;");
        standBehind("((((((((px)", "&|>)");
        standBehind("((((((((px)&", UNIT);
        standBehind("((((((((px)&(", CLOSED_UNIT);
        standBehind("((((((((px)>", CLOSED_UNIT);
        standBehind("((((((((px)>qx", "&|)");
        standBehind("((((((((px)>qx)", "&|>)");
        fault("((((((((px))))))))&((((((((px))))))))", NONE);
        fault("((((((((px))))))))|!!!!!!!!px", NONE);
        fault("((((((((px))))))))>(((((((px)))))))", NONE);
        fault("((((((((px))))))))>((((((((px))))))))", 26);
        fault("((((((((px))))))));((((((((px))))))))", NONE);
    }

    private static void conditionsCloseWithTheFormulaBehind() {
        promise(10, "a '>' until the formula behind it ends");
        standBehind("(px>px>px>px>px>px>px>px)", "&|>;");
        standBehind("(px>px>px>px>px>px>px>px", "&|)");
        standBehind("(px>px>px>px>px>px>px>px&", CLOSED_UNIT);
        standBehind("(px>px>px>px>px>px>px>px|", CLOSED_UNIT);
        fault("(px>px>px>px>px>px>px>px)&!!!!!!!!px", NONE);
        fault("(px>px>px>px>px>px>px>px)>px>px>px>px>px>px>px>px", NONE);
        fault("(px>px>px>px>px>px>px>px)>px>px>px>px>px>px>px>px>px", 49);
        fault("px>px>px>px>px>px>px>px>px;px>px>px>px>px>px>px>px>px", NONE);
        fault("px>px>px>px>px>px>px>px>px;!!!!!!!!px;((((((((px))))))))", NONE);
        fault("[px>px>px>px>px>px>px>px>px];[!!!!!!!!px]", NONE);
        fault("px>px>px>px>px>px>px>px>px>px", 26);
        fault("((((((((px>Ex))))))))", 10);
        fault("px>px&!!!!!!!px", NONE);
        fault("px>px&!!!!!!!!px", 13);
        fault("px>px|!!!!!!!px", NONE);
        fault("px>px|!!!!!!!!px", 13);
        fault("px&!!!!!!!!px>px", NONE);
    }

    private static void noOtherSignIsCounted() {
        promise(10, "At most 8 of the signs '!', '(' and '>' (and no others)");
        fault("Ex&Ex&Ex&Ex&Ex&Ex&Ex&Ex&Ex&Ex&Ex", NONE);
        fault("Ex|Ex|Ex|Ex|Ex|Ex|Ex|Ex|Ex|Ex|Ex", NONE);
        fault("[Ex];[Ex];[Ex];[Ex];[Ex];[Ex];[Ex];[Ex];[Ex];[Ex]", NONE);
        fault("#1x&#1x&#1x&#1x&#1x&#1x&#1x&#1x&#1x&#1x", NONE);
        fault("x<y&x<y&x<y&x<y&x<y&x<y&x<y&x<y&x<y&x=y&x=y", NONE);
        fault("[!!!!!!!!Ex&Ex|Ex]", NONE);
    }

    private static void syntaxFaultChangesNothing() {
        promise(10, "Returns the syntax fault of the text; NONE if it has none");
        for (int n : WORLDS) {
            asked("syntaxFault() of a discourse", () -> lived(n), DiscourseContexts::syntaxFault, NONE);
            asked("syntaxFault() of px&", () -> write(lived(n), "px&"), DiscourseContexts::syntaxFault, 3);
        }
    }

    // ---- promises 11 and 12

    private static void unknown(String text, int want, int depth) {
        unknown("", text, want, depth);
    }

    /** What unknownVariable() and unknownDepth() answer behind a context that a text has made. */
    private static void unknown(String accepted, String text, int want, int depth) {
        DiscourseContexts d = new DiscourseContexts();
        if (!accepted.isEmpty()) due("accept() of " + accepted + " (less than 0)", Math.min(accept(d, accepted), 0), 0);
        write(d, text);
        due("unknownVariable() of " + text + " behind " + accepted, d.unknownVariable(), want);
        due("unknownDepth() of " + text + " behind " + accepted, d.unknownDepth(), depth);
    }

    private static void unknownInAFaultyText() {
        promise(11, "SYNTAX_FAULT if the text has one (also if a variable is unknown ahead of the fault)");
        for (String text : new String[] {"", "px&", "x=x)", "!!!!!!!!!px", NEARLY_FULL + "sy&", "px ", "Ex;"}) {
            for (int n : WORLDS) {
                refused("unknownVariable() of " + text, () -> write(lived(n), text), DiscourseContexts::unknownVariable, SYNTAX);
                refused("unknownDepth() of " + text, () -> write(lived(n), text), DiscourseContexts::unknownDepth, SYNTAX);
            }
            unknown(text, SYNTAX, SYNTAX);
        }
    }

    private static void unknownAtTheEndsOfTheText() {
        promise(11, "the index of the first character of the text that is an unknown variable");
        unknown("x=x", 0, 0);
        unknown("y<x", 0, 0);
        unknown(NEARLY_FULL + "x=y", 59, 0);
        unknown(NEARLY_FULL + "sxy", 59, 0);
        unknown(NEARLY_FULL + "#1y", 59, 0);
        unknown(NEARLY_FULL + "y=x", 57, 0);
        unknown(NEARLY_FULL + "syx", 58, 0);
        unknown(NEARLY_FULL + "x=x", NONE, NONE);
        for (int n : WORLDS) {
            asked("unknownVariable()", () -> write(lived(n), "x=z"), DiscourseContexts::unknownVariable, 2);
            asked("unknownDepth()", () -> write(lived(n), "!x=z"), DiscourseContexts::unknownDepth, 1);
            asked("unknownVariable()", () -> lived(n), DiscourseContexts::unknownVariable, NONE);
            asked("unknownDepth()", () -> lived(n), DiscourseContexts::unknownDepth, NONE);
        }
    }

    private static void theFirstUnknownVariable() {
        promise(11, "the first character of the text that is an unknown variable (of several)");
        unknown("x=y", 0, 0);
        unknown("sxy", 1, 0);
        unknown("px&qy", 1, 0);
        unknown("px;qy", 1, 0);
        unknown("!px&qy", 2, 1);
        unknown("Ex&py&!qz", 4, 0);
        unknown("(px|qy)&rz", 2, 1);
        unknown("px>qy", 1, 1);
        unknown("[px];qy", 2, 0);
        unknown("Ey;!!sxy&pz", 6, 2);
    }

    private static void eachVariableIsUnknownOrKnown() {
        promise(11, "A variable of a unit other than E that is not known where it stands is unknown");
        for (char v : VARIABLE.toCharArray()) {
            unknown("E" + v, NONE, NONE);
            for (String unit : new String[] {"p" + v, "q" + v, "r" + v, "#1" + v, "#2" + v, "#3" + v}) {
                unknown(unit, unit.length() - 1, 0);
                unknown("E" + v + "&" + unit, NONE, NONE);
                unknown("E" + v, unit, NONE, NONE);
            }
            for (char u : VARIABLE.toCharArray()) {
                for (String unit : new String[] {"s" + v + u, "t" + v + u}) {
                    unknown(unit, 1, 0);
                    unknown("E" + v, unit, u == v ? NONE : 2, u == v ? NONE : 0);
                    unknown("E" + u, unit, u == v ? NONE : 1, u == v ? NONE : 0);
                    unknown("E" + v + "&E" + u, unit, NONE, NONE);
                }
                for (String unit : new String[] {v + "=" + u, v + "<" + u}) {
                    unknown(unit, 0, 0);
                    unknown("E" + v, unit, u == v ? NONE : 2, u == v ? NONE : 0);
                    unknown("E" + u, unit, u == v ? NONE : 0, u == v ? NONE : 0);
                    unknown("E" + v + "&E" + u, unit, NONE, NONE);
                }
            }
        }
    }

    private static void knownInAContextWithoutAssignments() {
        promise(11, "Ahead of the text it is what is known in the context (also in one without assignments)");
        unknown("Ex;!(x=x)", "x=x", NONE, NONE);
        unknown("Ex;!(x=x)", "x=y", 2, 0);
        unknown("Ex&Ey&Ez&!(x=x)", "sxy&pz", NONE, NONE);
        unknown("Ex;!(x=x);Ey", "sxy", NONE, NONE);
        DiscourseContexts d = withoutAssignments(2);
        d.resetContext();
        due("unknownVariable() behind resetContext()", write(d, "px").unknownVariable(), 1);
        d.undo();
        due("unknownVariable() behind undo()", d.unknownVariable(), NONE);
        d.setIndividuals(2);
        due("unknownVariable() behind setIndividuals(2)", d.unknownVariable(), 1);
    }

    private static void knownFromThereOn() {
        promise(11, "E v makes v known from there on");
        unknown("px&Ex", 1, 0);
        unknown("Ex&px", NONE, NONE);
        unknown("px;Ex", 1, 0);
        unknown("Ex;px", NONE, NONE);
        unknown("[Ex];px", NONE, NONE);
        unknown("Ex;[px]", NONE, NONE);
        unknown("[px];Ex", 2, 0);
        unknown("Ey&px&Ex", 4, 0);
        unknown("Ex;Ey;Ez;sxy;tyz", NONE, NONE);
    }

    private static void knownBehindAGroup() {
        promise(11, "the units of a row are gone through one after the other (a group of one row, too)");
        unknown("(Ex)&px", NONE, NONE);
        unknown("((((((((Ex))))))))&px", NONE, NONE);
        unknown("((Ex&Ey)&Ez);sxy&pz", NONE, NONE);
        unknown("(Ex);[(px)]", NONE, NONE);
        unknown("(px)&Ex", 2, 0);
    }

    private static void knownAheadOfTheFormulaBehindACondition() {
        promise(11, "Ahead of the formula behind a '>' it is what is known behind the choice ahead of the '>'");
        unknown("Ex>px", NONE, NONE);
        unknown("Ex>Ey>sxy", NONE, NONE);
        unknown("Ex>Ey|Ez>px", NONE, NONE);
        unknown("Ex>Ey|Ez>py", 10, 2);
        unknown("Ex|Ex>px", 7, 1);
        unknown("!Ex>px", 5, 1);
        unknown("(Ex>Ey)>px", 9, 1);
        unknown("(Ex|Ey)>px", 9, 1);
        unknown("(Ex&Ey)>sxy", NONE, NONE);
        unknown("px>Ex", 1, 1);
        unknown("Ex>px>qx>rx", NONE, NONE);
    }

    private static void knownAheadOfEachRow() {
        promise(11, "Ahead of each row of a choice of two or more rows it is what is known ahead of the choice");
        unknown("Ex|px", 4, 1);
        unknown("Ex|Ey|py", 7, 1);
        unknown("Ex&px|Ex&px|Ex&px", NONE, NONE);
        unknown("Ex&(px|qx|rx)", NONE, NONE);
        unknown("Ex;px|qx", NONE, NONE);
        unknown("Ex;px|sxy", 8, 1);
        unknown("Ex", "Ey|px", NONE, NONE);
        unknown("Ex", "Ey|py", 4, 1);
    }

    private static void knownBehindScopes() {
        promise(11, "Behind a '!' with its unit, a choice of two or more rows, or a formula with '>', it is only what was known ahead of it");
        unknown("!Ex&px", 5, 0);
        unknown("!!Ex&px", 6, 0);
        unknown("!(Ex);px", 7, 0);
        unknown("(Ex|Ex)&px", 9, 0);
        unknown("Ex|Ex;px", 7, 0);
        unknown("(Ex>Ey)&px", 9, 0);
        unknown("(Ex>Ey)&py", 9, 0);
        unknown("Ex>Ey;px", 7, 0);
        unknown("[Ex>Ey];py", 9, 0);
        unknown("Ey&!Ex&py", NONE, NONE);
        unknown("Ey&(Ex|Ex)&py", NONE, NONE);
        unknown("Ey&(Ex>Ex)&py", NONE, NONE);
        unknown("Ex&!Ex&px", NONE, NONE);
        unknown("(Ey&(Ex|Ex))&py", NONE, NONE);
    }

    private static void depthOfNothingUnknown() {
        promise(12, "NONE if no variable is unknown");
        unknown("!!!!!!!!Ex", NONE, NONE);
        unknown("Ex|Ey>Ez", NONE, NONE);
        unknown("Ex&!(px|qx>rx)", NONE, NONE);
    }

    private static void depthWithoutScopes() {
        promise(12, "Returns how many scopes enclose it: none");
        unknown("px", 1, 0);
        unknown("(px)", 2, 0);
        unknown("((((((((px))))))))", 9, 0);
        unknown("[px]", 2, 0);
        unknown("[(px&qx)]", 3, 0);
        unknown("Ey|Ez;px", 7, 0);
        unknown("!Ey&px&!Ez", 5, 0);
        unknown("(Ey>Ez)&(px)", 10, 0);
    }

    private static void depthOfNegations() {
        promise(12, "a scope is the unit of a '!'");
        for (int signs = 0; signs <= 8; signs++) unknown("!!!!!!!!".substring(0, signs) + "px", signs + 1, signs);
        unknown("!(!(!(!(px))))", 9, 4);
        unknown("!((px))", 4, 1);
        unknown("[!px]", 3, 1);
    }

    private static void depthOfRows() {
        promise(12, "a scope is a row of a choice of two or more rows, each of them once");
        unknown("px|Ey", 1, 1);
        unknown("Ey|px", 4, 1);
        unknown("Ey|Ey|px", 7, 1);
        unknown("Ey|px|Ey", 4, 1);
        unknown("Ey|(px)", 5, 1);
        unknown("Ey|(px|Ey)", 5, 2);
        unknown("(px|Ey)", 2, 1);
        unknown("((px|Ey))|Ey", 3, 2);
        unknown("(Ey&px)", 5, 0);
        unknown("((((((((px|Ey)|Ey)|Ey)|Ey)|Ey)|Ey)|Ey)|Ey)|Ey", 9, 9);
    }

    private static void depthOfConditions() {
        promise(12, "a scope is a formula with '>', each of them once");
        unknown("px>Ey", 1, 1);
        unknown("Ey>px", 4, 1);
        unknown("Ey>px>Ey", 4, 2);
        unknown("Ey>Ey>px", 7, 2);
        unknown("px>Ey>Ey", 1, 1);
        unknown("Ey>Ey>Ey>Ey>Ey>Ey>Ey>Ey>px", 25, 8);
        unknown("(px>Ey)>Ey", 2, 2);
        unknown("Ey>(px)", 5, 1);
        unknown("Ey>(px>Ey)", 5, 2);
        unknown("Ey>(Ey)&px", 9, 1);
        unknown("(Ey>Ey)>px", 9, 1);
        unknown("px|Ey>Ey", 1, 2);
        unknown("Ey>Ey|px", 7, 2);
        unknown("!(px>Ey)", 3, 2);
        unknown("!px>Ey", 2, 2);
        unknown("Ey>!px", 5, 2);
    }

    private static void depthAtTheMost() {
        promise(12, "Returns how many scopes enclose it: as many as a text has room for");
        unknown("((((((!!px|Ex>Ex)|Ex>Ex)|Ex>Ex)|Ex>Ex)|Ex>Ex)|Ex>Ex)|Ex>Ex", 9, 16);
        unknown("(((((((px>Ex)>Ex)>Ex)>Ex)>Ex)>Ex)>Ex)>Ex", 8, 8);
        unknown("((((((((px)>Ex)>Ex)>Ex)>Ex)>Ex)>Ex)>Ex)>Ex", 9, 8);
    }

    // ---- promise 13

    private static void partCountRefuses() {
        promise(13, "SYNTAX_FAULT if the text has one");
        for (String text : new String[] {"", ";", "Ex;", "Ex;;Ex", "[Ex", "Ex;Ex)", NEARLY_FULL + "Ex;", NEARLY_FULL, "!!!!!!!!!Ex;Ex"}) {
            for (int n : WORLDS) refused("partCount() of " + text, () -> write(lived(n), text), DiscourseContexts::partCount, SYNTAX);
            due("partCount() of " + text, written(text).partCount(), SYNTAX);
        }
    }

    private static void partCountFromOneToTwenty() {
        promise(13, "Returns the number of parts of the text");
        for (int parts = 1; parts <= 20; parts++) {
            due("partCount() of Ex;..", written(TWENTY_PARTS.substring(0, 3 * parts - 1)).partCount(), parts);
        }
        for (int parts = 1; parts <= 12; parts++) {
            String text = "[Ex];[Ex];[Ex];[Ex];[Ex];[Ex];[Ex];[Ex];[Ex];[Ex];[Ex];[Ex]".substring(0, 5 * parts - 1);
            due("partCount() of [Ex];..", written(text).partCount(), parts);
        }
        due("partCount() of the full text", written(NEARLY_FULL + "x=x").partCount(), 20);
        due("partCount() of one part", written("Ex&(Ex|Ey)&!Ez>Ex>Ey").partCount(), 1);
        due("partCount() of an unknown variable", written("px;[qy]").partCount(), 2);
        for (int n : WORLDS) asked("partCount()", () -> lived(n), DiscourseContexts::partCount, 3);
        asked("partCount() without assignments", () -> write(withoutAssignments(2), "px;py"), DiscourseContexts::partCount, 2);
    }
}
