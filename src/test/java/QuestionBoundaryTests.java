/** The sentences of promises 25 to 27 that name a boundary case: a test for each. */
public final class QuestionBoundaryTests extends Checks {
    private static final String[] FAULTY = {"", "px&", "[py", "Ex;", "!!!!!!!!!px", TWENTY_PARTS + ";", "pz]"};
    private static final int[] NEGATIVE = {-1, -2, -32, -64, -256, -65536, LEAST, LEAST + 1, LEAST + 60};

    public static void main(String[] arguments) {
        sizeBehindRefusesANegativeNumber();
        sizeBehindRefusesAFault();
        sizeBehindRefusesAnUnknownVariable();
        sizeBehindMoreParts();
        sizeBehindRefusesTheFirstErrorFirst();
        sizeBehindNoParts();
        sizeBehindAllParts();
        sizeBehindTwentyParts();
        sizeBehindWithoutAssignments();
        sizeBehindTakesNoPresuppositions();
        supportsRefusesAFault();
        supportsRefusesAnUnknownVariable();
        supportsRefusesTheFaultFirst();
        supportsWithoutAssignments();
        supportsByAllAndByAllButOne();
        supportsByAllPartsTogether();
        supportsTakesNoPresuppositions();
        worldsTrueRefusesAFault();
        worldsTrueRefusesAnUnknownVariable();
        worldsTrueRefusesTheFaultFirst();
        worldsTrueFromNoneToAll();
        worldsTrueOfOneWorld();
        worldsTrueForTheFirstContext();
        worldsTrueWithTheWorldAsItIs();
        worldsTrueTakesNoPresuppositions();
        finish();
    }

    // ---- promise 25

    private static void sizeRefused(String text, int parts, Made made, int error) {
        refused("sizeBehind(" + parts + ") of " + text, () -> write(made.make(), text), d -> d.sizeBehind(parts), error);
    }

    private static void sizeBehindRefusesANegativeNumber() {
        promise(25, "`parts`: 0 or more; INVALID_ARGUMENT if parts is negative");
        for (int parts : NEGATIVE) {
            for (int n : WORLDS) {
                sizeRefused("Ex;px", parts, () -> world(n), INVALID);
                sizeRefused("Ex;px", parts, () -> lived(n), INVALID);
                sizeRefused("Ex;px", parts, () -> withoutAssignments(n), INVALID);
            }
        }
    }

    private static void sizeBehindRefusesAFault() {
        promise(25, "SYNTAX_FAULT if the text has one");
        for (String text : FAULTY) {
            for (int n : WORLDS) {
                for (int parts : new int[] {0, 1, 20, MOST}) {
                    sizeRefused(text, parts, () -> lived(n), SYNTAX);
                    sizeRefused(text, parts, () -> withoutAssignments(n), SYNTAX);
                }
            }
        }
    }

    private static void sizeBehindRefusesAnUnknownVariable() {
        promise(25, "UNKNOWN_VARIABLE if a variable of the whole text is unknown");
        for (int n : WORLDS) {
            for (int parts = 0; parts <= 3; parts++) {
                sizeRefused("Ex;Ey;pz", parts, () -> lived(n), UNKNOWN);
                sizeRefused("pz;Ez;Ez", parts, () -> lived(n), UNKNOWN);
                sizeRefused("Ex;!x=z;Ez", parts, () -> world(n), UNKNOWN);
                sizeRefused("Ex;!Ex;x=z", parts, () -> withoutAssignments(n), UNKNOWN);
            }
            for (int parts = 0; parts <= 20; parts++) {
                due("sizeBehind(..)", write(world(n), TWENTY_PARTS.substring(0, 57) + "sxy").sizeBehind(parts), UNKNOWN);
            }
        }
    }

    private static void sizeBehindMoreParts() {
        promise(25, "NONE if the text has not so many parts");
        for (int n : WORLDS) {
            for (int parts : new int[] {3, 4, 20, 21, 32, 60, 64, 256, 65536, MOST - 1, MOST}) {
                sizeRefused("Ex;x=x", parts, () -> world(n), NONE);
                sizeRefused("Ex;x=x", parts, () -> lived(n), NONE);
                sizeRefused("Ex;x=x", parts, () -> withoutAssignments(n), NONE);
            }
            sizeRefused("Ex", 2, () -> world(n), NONE);
            sizeRefused("[Ex]", 2, () -> world(n), NONE);
            sizeRefused("!Ex", 2, () -> world(n), NONE);
            sizeRefused(TWENTY_PARTS, 21, () -> world(n), NONE);
        }
    }

    private static void sizeBehindRefusesTheFirstErrorFirst() {
        promise(25, "If several error conditions apply, the method returns the one that its description lists first");
        for (int n : WORLDS) {
            for (int parts : NEGATIVE) {
                for (String text : FAULTY) sizeRefused(text, parts, () -> lived(n), INVALID);
                sizeRefused("pz", parts, () -> lived(n), INVALID);
                sizeRefused("pz&", parts, () -> lived(n), INVALID);
            }
            sizeRefused("pz&", 0, () -> lived(n), SYNTAX);
            sizeRefused("pz&", 2, () -> lived(n), SYNTAX);
            sizeRefused("Ex&", 9, () -> lived(n), SYNTAX);
            sizeRefused("pz", 2, () -> lived(n), UNKNOWN);
            sizeRefused("pz", MOST, () -> lived(n), UNKNOWN);
        }
    }

    private static void sizeBehindNoParts() {
        promise(25, "the number of assignments of the context behind the first parts of the text (0 of them)");
        int[] all = {1, 27, 343};
        for (int n : WORLDS) {
            for (String text : new String[] {"Ex", "!Ex", "[!Ex]", "Ex;Ey;Ez", TWENTY_PARTS}) {
                asked("sizeBehind(0) of " + text, () -> write(world(n), text), d -> d.sizeBehind(0), 1);
                asked("sizeBehind(0) of " + text, () -> write(withoutAssignments(n), text), d -> d.sizeBehind(0), 0);
                asked("sizeBehind(0) of " + text, () -> write(knowing(n, "Ex;Ey;Ez"), text), d -> d.sizeBehind(0), all[n - 1]);
            }
        }
    }

    private static void sizeBehindAllParts() {
        promise(25, "the number of assignments of the context behind the first parts of the text, so many of them");
        int[][] sizes = {{1, 1, 1, 1, 1, 1, 0}, {1, 3, 9, 27, 9, 6, 0}, {1, 7, 49, 343, 49, 21, 0}};
        String text = "Ex;Ey;Ez;x=y;#1z;!Ex";
        for (int n : WORLDS) {
            for (int parts = 0; parts <= 6; parts++) {
                int behind = parts;
                asked("sizeBehind(" + parts + ")", () -> write(world(n), text), d -> d.sizeBehind(behind), sizes[n - 1][parts]);
            }
            sizeRefused(text, 7, () -> world(n), NONE);
        }
    }

    private static void sizeBehindTwentyParts() {
        promise(25, "so many of them (as many as a text has room for)");
        for (int n : WORLDS) {
            DiscourseContexts d = write(world(n), TWENTY_PARTS.substring(0, 57) + "#1x");
            for (int parts = 1; parts <= 19; parts++) due("sizeBehind(" + parts + ")", d.sizeBehind(parts), everybody(n));
            due("sizeBehind(20)", d.sizeBehind(20), n);
            due("sizeBehind(21)", d.sizeBehind(21), NONE);
        }
    }

    private static void sizeBehindWithoutAssignments() {
        promise(25, "Returns the number of assignments of the context behind the first parts: none");
        for (int n : WORLDS) {
            for (int parts = 0; parts <= 3; parts++) {
                int behind = parts;
                asked("sizeBehind(" + parts + ")", () -> write(withoutAssignments(n), "Ex;!x=x;Ey"), d -> d.sizeBehind(behind), 0);
            }
        }
    }

    private static void sizeBehindTakesNoPresuppositions() {
        promise(25, "presuppositions are taken as formulas without brackets");
        for (int n : WORLDS) {
            asked("sizeBehind(2)", () -> write(world(n), "Ex;[#1x];[!Ex];Ex"), d -> d.sizeBehind(2), n);
            asked("sizeBehind(3)", () -> write(world(n), "Ex;[#1x];[!Ex];Ex"), d -> d.sizeBehind(3), 0);
            asked("sizeBehind(4)", () -> write(world(n), "Ex;[#1x];[!Ex];Ex"), d -> d.sizeBehind(4), 0);
            asked("sizeBehind(1)", () -> write(world(n), "[!Ex]"), d -> d.sizeBehind(1), 0);
        }
    }

    // ---- promise 26

    private static void supportsRefused(String text, Made made, int error) {
        refused("supports() of " + text, () -> write(made.make(), text), DiscourseContexts::supports, error);
    }

    private static void supports(String text, Made made, int want) {
        asked("supports() of " + text, () -> write(made.make(), text), DiscourseContexts::supports, want);
    }

    private static void supportsRefusesAFault() {
        promise(26, "SYNTAX_FAULT if the text has one");
        for (String text : FAULTY) {
            for (int n : WORLDS) {
                supportsRefused(text, () -> world(n), SYNTAX);
                supportsRefused(text, () -> lived(n), SYNTAX);
                supportsRefused(text, () -> withoutAssignments(n), SYNTAX);
            }
        }
    }

    private static void supportsRefusesAnUnknownVariable() {
        promise(26, "UNKNOWN_VARIABLE if a variable is unknown");
        for (int n : WORLDS) {
            supportsRefused("px", () -> world(n), UNKNOWN);
            supportsRefused("Ex;Ey;x=z", () -> lived(n), UNKNOWN);
            supportsRefused("[pz]", () -> lived(n), UNKNOWN);
            supportsRefused("!Ex;py", () -> withoutAssignments(n), UNKNOWN);
            supportsRefused(TWENTY_PARTS.substring(0, 57) + "sxz", () -> lived(n), UNKNOWN);
        }
    }

    private static void supportsRefusesTheFaultFirst() {
        promise(26, "If several error conditions apply, the method returns the one that its description lists first");
        for (int n : WORLDS) {
            supportsRefused("pz&", () -> lived(n), SYNTAX);
            supportsRefused("pz)", () -> withoutAssignments(n), SYNTAX);
            supportsRefused("pz;", () -> world(n), SYNTAX);
        }
    }

    private static void supportsWithoutAssignments() {
        promise(26, "a context without assignments supports each formula");
        for (int n : WORLDS) {
            for (String text : new String[] {"x=x", "!(x=x)", "!Ex", "[!Ex]", "Ey;!Ex;py", "x=x>!(x=x)", "px|qx", TWENTY_PARTS}) {
                supports(text, () -> withoutAssignments(n), 1);
            }
        }
    }

    private static void supportsByAllAndByAllButOne() {
        promise(26, "whether all its parts have results for each assignment");
        for (int n : WORLDS) {
            supports("x=x", () -> knowing(n, "Ex"), 1);
            supports("!(x=x)", () -> knowing(n, "Ex"), 0);
            supports("!#" + n + "x", () -> knowing(n, "Ex"), 0);
            supports("!#" + n + "x|!#" + n + "y|!#" + n + "z", () -> knowing(n, "Ex;Ey;Ez"), 0);
            if (n > 1) supports("!#" + n + "x", () -> knowing(n, "Ex;!#" + n + "x"), 1);
            supports("#" + n + "x", () -> knowing(n, "Ex;#" + n + "x"), 1);
            supports("Ex", () -> world(n), 1);
            supports("!Ex", () -> world(n), 0);
            for (int object = 1; object <= everybody(n); object++) supportsAllBut(n, object);
        }
    }

    private static void supportsAllBut(int n, int object) {
        String text = "!(px&#" + Integer.bitCount(object) + "x)";
        DiscourseContexts d = world(n);
        d.setPredicate(0, object);
        accept(d, "Ex");
        due("supports() of " + text + ", set " + object, write(d, text).supports(), 0);
        accept(d, text);
        due("supports() of " + text + " behind accept()", d.supports(), 1);
    }

    private static void supportsByAllPartsTogether() {
        promise(26, "whether all its parts together, one behind the other, have results for each assignment");
        for (int n : WORLDS) {
            supports("Ex;#1x", () -> world(n), 1);
            supports("Ex;#1x;!#1x", () -> world(n), 0);
            supports("Ex;!#1x;#1x", () -> world(n), 0);
            supports("Ey;y=x", () -> knowing(n, "Ex"), 1);
            supports("Ey;y=x;#1y", () -> knowing(n, "Ex"), n == 1 ? 1 : 0);
            supports("Ey;y<x;#1y", () -> knowing(n, "Ex"), 1);
            supports("Ex;Ey;Ez;!Ex", () -> knowing(n, "Ex;Ey;Ez"), 0);
            supports(TWENTY_PARTS.substring(0, 57) + "#1x", () -> knowing(n, "Ex"), 1);
            supports(TWENTY_PARTS.substring(0, 57) + "!Ex", () -> knowing(n, "Ex"), 0);
        }
    }

    private static void supportsTakesNoPresuppositions() {
        promise(26, "presuppositions are taken as formulas without brackets");
        for (int n : WORLDS) {
            supports("Ex;[#1x]", () -> world(n), 1);
            supports("[Ex&#1x];[x=x]", () -> world(n), 1);
            supports("[!Ex]", () -> world(n), 0);
            supports("Ex;[#1x];[!#1x]", () -> world(n), 0);
        }
    }

    // ---- promise 27

    private static void worldsRefused(String text, Made made, int error) {
        refused("worldsTrue() of " + text, () -> write(made.make(), text), DiscourseContexts::worldsTrue, error);
    }

    private static void worlds(String text, Made made, int want) {
        asked("worldsTrue() of " + text, () -> write(made.make(), text), DiscourseContexts::worldsTrue, want);
    }

    private static void worldsTrueRefusesAFault() {
        promise(27, "SYNTAX_FAULT if the text has one");
        for (String text : FAULTY) {
            for (int n : WORLDS) {
                worldsRefused(text, () -> world(n), SYNTAX);
                worldsRefused(text, () -> lived(n), SYNTAX);
                worldsRefused(text, () -> withoutAssignments(n), SYNTAX);
            }
        }
    }

    private static void worldsTrueRefusesAnUnknownVariable() {
        promise(27, "UNKNOWN_VARIABLE if a variable is unknown in the first context");
        for (int n : WORLDS) {
            worldsRefused("px", () -> world(n), UNKNOWN);
            for (char v : "xyz".toCharArray()) {
                worldsRefused("p" + v, () -> knowing(n, "Ex;Ey;Ez"), UNKNOWN);
                worldsRefused("p" + v, () -> knowing(n, "Ex;Ey;Ez;!Ex"), UNKNOWN);
                worldsRefused("!E" + v + "&p" + v, () -> knowing(n, "Ex;Ey;Ez"), UNKNOWN);
                worlds("E" + v + "&p" + v, () -> world(n), everybody(n) * (everybody(n) + 1));
            }
        }
    }

    private static void worldsTrueRefusesTheFaultFirst() {
        promise(27, "If several error conditions apply, the method returns the one that its description lists first");
        for (int n : WORLDS) {
            worldsRefused("px&", () -> lived(n), SYNTAX);
            worldsRefused("pz;", () -> world(n), SYNTAX);
            worldsRefused("px)", () -> withoutAssignments(n), SYNTAX);
        }
    }

    private static void worldsTrueFromNoneToAll() {
        promise(27, "Returns the number of these worlds: none or all of them");
        int[] all = {4, 16, 64};
        for (int n : WORLDS) {
            worlds("Ex", () -> world(n), all[n - 1]);
            worlds("Ex;Ey;Ez", () -> lived(n), all[n - 1]);
            worlds("!Ex", () -> world(n), 0);
            worlds("Ex;!(x=x)", () -> world(n), 0);
            worlds("Ex;px|!px", () -> lived(n), all[n - 1]);
            worlds("Ex;px&!px", () -> lived(n), 0);
            worlds("Ex>px|!px", () -> world(n), all[n - 1]);
            worlds(TWENTY_PARTS, () -> world(n), all[n - 1]);
            worlds(TWENTY_PARTS.substring(0, 57) + "x=x", () -> world(n), all[n - 1]);
            worlds(TWENTY_PARTS.substring(0, 57) + "!Ex", () -> world(n), 0);
        }
    }

    private static void worldsTrueOfOneWorld() {
        promise(27, "all ways to give sets to the predicates p and q (empty and full ones, too)");
        int[] all = {4, 16, 64};
        for (int n : WORLDS) {
            worlds("Ex>px&qx", () -> world(n), 1);
            worlds("!(Ex&(px|qx))", () -> world(n), 1);
            worlds("(Ex>px)&!(Ex&qx)", () -> world(n), 1);
            worlds("(Ex>qx)&!(Ex&px)", () -> world(n), 1);
            worlds("!(Ex>px&qx)", () -> world(n), all[n - 1] - 1);
            worlds("Ex&(px|qx)", () -> world(n), all[n - 1] - 1);
            worlds("Ex;#" + n + "x;px", () -> world(n), 1 << n);
            worlds("Ex;#" + n + "x;qx", () -> world(n), 1 << n);
        }
    }

    private static void worldsTrueForTheFirstContext() {
        promise(27, "those in which the text has results for the first context");
        int[] all = {4, 16, 64};
        for (int n : WORLDS) {
            worlds("Ex", () -> withoutAssignments(n), all[n - 1]);
            worlds("Ex&px", () -> withoutAssignments(n), everybody(n) * (everybody(n) + 1));
            worlds("Ex&px", () -> knowing(n, "Ex;Ey;Ez"), everybody(n) * (everybody(n) + 1));
            worlds("!Ex", () -> knowing(n, "Ex"), 0);
        }
    }

    private static void worldsTrueWithTheWorldAsItIs() {
        promise(27, "with the individuals, the relations and the set of r as they are");
        for (int n : WORLDS) {
            int all = (everybody(n) + 1) * (everybody(n) + 1);
            for (int set = 0; set <= everybody(n); set++) worldsWithR(n, set, all);
            for (int p = 0; p <= everybody(n); p++) {
                DiscourseContexts d = world(n);
                d.setPredicate(0, p);
                d.setPredicate(1, everybody(n) - p);
                due("worldsTrue() of Ex&px, set " + p, write(d, "Ex&px").worldsTrue(), everybody(n) * (everybody(n) + 1));
                due("worldsTrue() of Ex&qx, set " + p, write(d, "Ex&qx").worldsTrue(), everybody(n) * (everybody(n) + 1));
                due("predicate(0)", d.predicate(0), p);
                due("predicate(1)", d.predicate(1), everybody(n) - p);
            }
            for (int pair = 0; pair < n * n; pair++) {
                DiscourseContexts d = world(n);
                due("worldsTrue() of Ex&Ey&sxy", write(d, "Ex&Ey&sxy").worldsTrue(), 0);
                d.setPair(0, pair / n, pair % n, 1);
                due("worldsTrue() of Ex&Ey&sxy", d.worldsTrue(), all);
                due("worldsTrue() of Ex&Ey&txy", write(d, "Ex&Ey&txy").worldsTrue(), 0);
                due("worldsTrue() of Ex&Ey&sxy&px&qy", write(d, "Ex&Ey&sxy&px&qy").worldsTrue(), all / 4);
                d.setPair(1, pair / n, pair % n, 1);
                due("worldsTrue() of Ex&Ey&txy&py&qx", write(d, "Ex&Ey&txy&py&qx").worldsTrue(), all / 4);
            }
        }
    }

    private static void worldsWithR(int n, int set, int all) {
        DiscourseContexts d = world(n);
        d.setPredicate(2, set);
        due("worldsTrue() of Ex&rx, set " + set, write(d, "Ex&rx").worldsTrue(), set == 0 ? 0 : all);
        due("worldsTrue() of Ex>rx, set " + set, write(d, "Ex>rx").worldsTrue(), set == everybody(n) ? all : 0);
        // The sets of p that have an individual of r are those that are not within the others.
        int without = 1 << n - Integer.bitCount(set);
        due("worldsTrue() of Ex&rx&px, set " + set, write(d, "Ex&rx&px").worldsTrue(), all - without * (everybody(n) + 1));
        due("predicate(2)", d.predicate(2), set);
    }

    private static void worldsTrueTakesNoPresuppositions() {
        promise(27, "presuppositions are taken as formulas without brackets");
        for (int n : WORLDS) {
            worlds("[Ex];[px]", () -> world(n), everybody(n) * (everybody(n) + 1));
            worlds("Ex;[px];[qx]", () -> lived(n), write(world(n), "Ex;px;qx").worldsTrue());
            worlds("[!Ex]", () -> world(n), 0);
        }
    }
}
