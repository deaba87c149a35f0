import java.util.ArrayList;
import java.util.HashMap;
import java.util.HashSet;
import java.util.List;
import java.util.Map;
import java.util.Set;

/**
 * The section "Texts", sentence by sentence. What a discourse is, and where a text goes wrong, is worked out
 * from the document's grammar itself: of each of its words, the texts that it has and the beginnings of these.
 */
public final class TermsOfTextsTests extends Checks {
    /** The grammar of the document: a word, and a row of what it can be. A repetition is written as a word in itself. */
    private static final String[] GRAMMAR = {
        "D=P", "D=P;D", "P=[F]", "P=F", "F=C", "F=C>F", "C=R", "C=R|C", "R=U", "R=U&R",
        "U=!U", "U=(F)", "U=EV", "U=pV", "U=qV", "U=rV", "U=sVV", "U=tVV", "U=V=V", "U=V<V", "U=#NV",
        "V=x", "V=y", "V=z", "N=1", "N=2", "N=3"};
    private static final String WORDS_OF_GRAMMAR = "DPFCRUVN";
    private static final String SIGNS = "!(>)|&;[]Epqrstxyz=<#123";

    private static long seed = 20260;

    public static void main(String[] arguments) {
        oneTextOfAtMost60Characters();
        discourses();
        noBlanks();
        eightOpenSigns();
        openUntilTheyEnd();
        faultsOfBeginnings();
        finish();
    }

    private static int next(int bound) {
        seed = seed * 6364136223846793005L + 1442695040888963407L;
        return (int) ((seed >>> 33) % bound);
    }

    private static void fault(String text, int want) {
        due("syntaxFault() of " + text, written(text).syntaxFault(), want);
    }

    // ---- one text

    private static void oneTextOfAtMost60Characters() {
        sentence("Texts", "There is one text of at most 60 characters, empty at first.");
        DiscourseContexts d = new DiscourseContexts();
        due("syntaxFault() at first", d.syntaxFault(), 0);
        due("clearText() at first", d.clearText(), 0);
        for (int length = 1; length <= 60; length++) due("type('!')", d.type('!'), length);
        due("type('!') into 60 characters", d.type('!'), FULL);
        due("syntaxFault() of 60 characters", d.syntaxFault(), 8);
        due("clearText()", d.clearText(), 60);
        for (int n : WORLDS) {
            DiscourseContexts one = write(lived(n), "Ex");
            one.accept();
            one.undo();
            due("type(';') behind accept() and undo()", one.type(';'), 3);
        }
    }

    // ---- the grammar

    /** For each word of the grammar its texts, and their beginnings, of a length at most. */
    private static final class Language {
        final int length;
        final Map<Character, Set<String>> whole = new HashMap<>();
        final Map<Character, Set<String>> begun = new HashMap<>();

        Language(String signs, int length) {
            this.length = length;
            for (char word : WORDS_OF_GRAMMAR.toCharArray()) {
                whole.put(word, new HashSet<>());
                begun.put(word, new HashSet<>(Set.of("")));
            }
            for (char sign : signs.toCharArray()) {
                whole.put(sign, Set.of("" + sign));
                begun.put(sign, Set.of("", "" + sign));
            }
            for (int size = -1; size != size(); ) {
                size = size();
                for (String rule : GRAMMAR) derive(rule.charAt(0), rule.substring(2));
            }
        }

        private int size() {
            int size = 0;
            for (Set<String> texts : whole.values()) size += texts.size();
            for (Set<String> texts : begun.values()) size += texts.size();
            return size;
        }

        private void derive(char word, String row) {
            for (char piece : row.toCharArray()) {
                if (!whole.containsKey(piece)) return;
            }
            Set<String> ahead = Set.of("");
            for (char piece : row.toCharArray()) {
                begun.get(word).addAll(joined(ahead, begun.get(piece)));
                ahead = joined(ahead, whole.get(piece));
            }
            whole.get(word).addAll(ahead);
        }

        private Set<String> joined(Set<String> ones, Set<String> others) {
            Set<String> joined = new HashSet<>();
            for (String one : ones) {
                for (String other : others) {
                    if (one.length() + other.length() <= length) joined.add(one + other);
                }
            }
            return joined;
        }
    }

    private static void discourses() {
        sentence("Texts", "It should be a discourse: discourse = part { \";\" part } ..");
        // The longer the texts are, the fewer signs there can be (an "x" needs its "="); in none of them are nine signs open.
        discoursesOf(SIGNS, 4);
        discoursesOf("!(>)|&;[]Ex=", 6);
        discoursesOf("(>)Ex=", 8);
        discoursesOf("!(|)Ex=", 8);
        discoursesOf("[;]&Ex=", 8);
        discoursesOf("!>;pz=", 8);
        discoursesOf("Epstx=<#12", 5);
    }

    private static void discoursesOf(String signs, int length) {
        Language language = new Language(signs, length);
        Set<String> discourses = language.whole.get('D');
        Set<String> beginnings = language.begun.get('D');
        due("some texts are discourses (1)", discourses.size() > 5 ? 1 : 0, 1);
        for (String beginning : beginnings) {
            fault(beginning, discourses.contains(beginning) ? NONE : beginning.length());
            if (beginning.length() == length) continue;
            for (char c : SIGNS.toCharArray()) {
                if (signs.indexOf(c) >= 0 && !beginnings.contains(beginning + c)) fault(beginning + c + "x", beginning.length());
            }
        }
    }

    private static void noBlanks() {
        sentence("Texts", "There are no blanks.");
        Set<String> beginnings = new Language(SIGNS, 3).begun.get('D');
        for (String beginning : beginnings) {
            // No other character that can be typed stands in the grammar, either.
            for (char c = 32; c <= 126; c++) {
                if (SIGNS.indexOf(c) < 0) fault(beginning + c, beginning.length());
            }
        }
        String text = "Ex;[!(px|qx)&sxx>x=x]";
        fault(text, NONE);
        for (int place = 0; place <= text.length(); place++) fault(text.substring(0, place) + " " + text.substring(place), place);
    }

    // ---- open signs

    /** Makes discourses in which any number of signs is open, and counts these. */
    private static final class Maker {
        final StringBuilder text = new StringBuilder();
        int open = 0;
        int mostOpen = 0;
        int ninth = -1;

        void part(int room) {
            if (next(3) > 0) {
                formula(room);
                return;
            }
            text.append('[');
            formula(room);
            text.append(']');
        }

        private void open(char sign) {
            if (open == 8 && ninth < 0) ninth = text.length();
            open++;
            mostOpen = Math.max(mostOpen, open);
            text.append(sign);
        }

        private void formula(int room) {
            choice(room);
            if (room > 0 && next(3) == 0) {
                open('>');
                formula(room - 1);
                open--;
            }
        }

        private void choice(int room) {
            row(room);
            if (next(8) == 0) {
                text.append('|');
                choice(room / 2);
            }
        }

        private void row(int room) {
            unit(room);
            if (next(8) == 0) {
                text.append('&');
                row(room / 2);
            }
        }

        private void unit(int room) {
            int kind = room > 0 ? next(5) : 4;
            if (kind < 2) {
                open('!');
                unit(room - 1);
                open--;
            } else if (kind < 4) {
                open('(');
                formula(room - 1);
                text.append(')');
                open--;
            } else {
                text.append('E').append((char) ('x' + next(3)));
            }
        }
    }

    private static List<Maker> made(int many) {
        List<Maker> made = new ArrayList<>();
        while (made.size() < many) {
            Maker maker = new Maker();
            maker.part(4 + next(9));
            if (next(4) == 0) {
                maker.text.append(';');
                maker.part(4 + next(9));
            }
            if (maker.text.length() <= 60) made.add(maker);
        }
        return made;
    }

    private static void eightOpenSigns() {
        sentence("Texts", "At most 8 of the signs \"!\", \"(\" and \">\" can be open at once (and of a ninth open sign: the syntax fault is its index)");
        int eights = 0;
        int nines = 0;
        for (Maker maker : made(20000)) {
            fault(maker.text.toString(), maker.ninth < 0 ? NONE : maker.ninth);
            eights += maker.mostOpen == 8 ? 1 : 0;
            nines += maker.mostOpen == 9 ? 1 : 0;
        }
        due("of the texts, many have eight open signs, and many have nine (1)", eights > 100 && nines > 100 ? 1 : 0, 1);
        for (String sign : new String[] {"!", "(", "Ex>"}) {
            for (String other : new String[] {"!", "(", "Ex>"}) {
                // A "!" would be closed by the unit ahead of the ">".
                if (sign.equals("!") && other.equals("Ex>")) continue;
                for (int many = 0; many <= 8; many++) nineSigns(sign, many, other);
            }
        }
    }

    /** The text ends too early at eight open signs and where it is cut; with nine the last one is the fault. */
    private static void nineSigns(String sign, int many, String other) {
        String eight = sign.repeat(many) + other.repeat(8 - many);
        fault(eight, eight.length());
        fault(eight + "!", eight.length());
        fault(eight + "(", eight.length());
        if (!eight.endsWith("!")) fault(eight + "Ex>", eight.length() + 2);
    }

    private static void openUntilTheyEnd() {
        sentence("Texts", "a \"!\" is open until its unit ends, a \"(\" until its \")\", a \">\" until the formula behind it ends.");
        String eightNegations = "!!!!!!!!Ex";
        String eightBrackets = "((((((((Ex))))))))";
        String eightConditions = "Ex>Ex>Ex>Ex>Ex>Ex>Ex>Ex>Ex";
        for (String closed : new String[] {eightNegations, eightBrackets}) {
            for (String sign : new String[] {"&", "|", ";"}) {
                fault(closed + sign + eightNegations, NONE);
                fault(closed + sign + eightBrackets, NONE);
                fault(closed + sign + "!" + eightNegations, closed.length() + 9);
                fault(closed + sign + "(" + eightBrackets, closed.length() + 9);
            }
            fault(closed + ">Ex>Ex>Ex>Ex>Ex>Ex>Ex>Ex", NONE);
            fault(closed + ">Ex>Ex>Ex>Ex>Ex>Ex>Ex>Ex>Ex", closed.length() + 24);
            fault(closed + ">" + closed, closed.length() + 8);
        }
        fault(eightConditions + ";" + eightConditions, NONE);
        fault(eightConditions + ";" + eightNegations, NONE);
        fault("[" + eightConditions + "];" + eightBrackets, NONE);
        fault(eightConditions + "&Ey|Ez", NONE);
        fault(eightConditions + "&!Ex", eightConditions.length() + 1);
        fault(eightConditions + "|(Ex)", eightConditions.length() + 1);
        fault(eightConditions + ">Ex", eightConditions.length());
        fault("(Ex>Ex>Ex>Ex>Ex>Ex>Ex>Ex)&" + eightNegations, NONE);
        fault("(Ex>Ex>Ex>Ex>Ex>Ex>Ex>Ex)>" + eightNegations, 33);
        fault("(Ex>Ex>Ex>Ex>Ex>Ex>Ex>Ex&!Ex)", 25);
        fault("!!!!!!!(Ex)&!!!!!!!(Ex)", NONE);
        fault("!!!!!!!(Ex&!Ex)", 11);
        fault("!!!!!!!(Ex|(Ex))", 11);
        fault("!!!!!!!(Ex>Ex)", 10);
        fault("!!!!!!(Ex>Ex)&!!!!!!(!Ex>Ex>Ey)", 27);
    }

    // ---- faults

    private static void faultsOfBeginnings() {
        sentence("Texts", "The syntax fault of a text that is no discourse is the index, from 0, of the first character that cannot stand at its place, "
            + "or the length of the text if it ends too early (as the empty text does).");
        fault("", 0);
        for (Maker maker : made(1000)) {
            if (maker.ninth >= 0) continue;
            String text = maker.text.toString();
            for (int length = 0; length < text.length(); length++) {
                String beginning = text.substring(0, length);
                int fault = written(beginning).syntaxFault();
                due("syntaxFault() of the beginning " + beginning, fault == NONE ? length : fault, length);
                // What can stand nowhere is the fault wherever it stands, whatever stands behind it.
                if (length < 58) fault(beginning + "~&", length);
            }
        }
        String[] early = {"!", "(", "E", "p", "s", "sx", "x", "x=", "y<", "#", "#2", "[", "(Ex", "[Ex", "Ex&", "Ex|", "Ex>", "Ex;", "[Ex];"};
        for (String text : early) {
            fault(text, text.length());
            fault("Ex;" + text, 3 + text.length());
        }
    }
}
