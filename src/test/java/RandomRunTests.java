/**
 * Long runs of calls, made by a generator that always gives the same numbers, on DiscourseContexts
 * and on the reference model; each answer must be the same.
 */
public final class RandomRunTests {
    private static final int RUNS = 2000;
    private static final int CALLS = 512;
    private static final String SIGNS = "!(>)|&;[]Epqrstxyz=<#1234 ";

    private static int wrong = 0;
    private static long seed;

    private final DiscourseContexts tested = new DiscourseContexts();
    private final ReferenceModel model = new ReferenceModel();
    private final StringBuilder told = new StringBuilder();
    private final int run;
    private int calls = 0;
    private boolean failed = false;

    private RandomRunTests(int run) {
        this.run = run;
    }

    public static void main(String[] arguments) {
        for (int run = 0; run < RUNS && wrong < 5; run++) {
            seed = run * 7919L + 17;
            new RandomRunTests(run).go();
        }
        System.out.println(wrong == 0 ? "all answers are as due" : wrong + " runs are not as due");
        if (wrong != 0) System.exit(1);
    }

    private void go() {
        if (next(6) > 0) furnish();
        while (calls < CALLS && !failed) {
            int kind = next(12);
            if (kind < 2) worldCalls();
            else if (kind < 8) textCalls();
            else if (kind < 10) otherActions();
            else ask();
            if (model.contextSize() == 0 && next(2) == 0) leaveEmptyContext();
        }
    }

    /** Fills the sets, because in a world of empty sets few texts differ. */
    private void furnish() {
        int individuals = 1 + next(3);
        same("setIndividuals(" + individuals + ")", tested.setIndividuals(individuals), model.setIndividuals(individuals));
        for (int predicate = 0; predicate < 3; predicate++) setPredicate(predicate, next(1 << individuals));
        for (int relation = 0; relation < 2; relation++) {
            for (int pair = 0; pair < individuals * individuals; pair++) {
                if (next(2) == 0) setPair(relation, pair / individuals, pair % individuals, 1);
            }
        }
    }

    private void leaveEmptyContext() {
        if (next(2) == 0) same("undo()", tested.undo(), model.undo());
        else same("resetContext()", tested.resetContext(), model.resetContext());
    }

    private static int next(int bound) {
        seed = seed * 6364136223846793005L + 1442695040888963407L;
        return (int) ((seed >>> 33) % bound);
    }

    private void same(String call, int got, int want) {
        calls++;
        // What later calls answer is free.
        if (calls > CALLS) return;
        told.append(call).append(" = ").append(want).append('\n');
        if (got != want && !failed) {
            failed = true;
            wrong++;
            System.out.println("run " + run + ": " + call + " answered " + got + ", due is " + want + ", behind:");
            System.out.println(told);
        }
    }

    // ---- arguments, wrong ones now and then

    private static int number(int most) {
        int kind = next(40);
        if (kind == 0) return -1 - next(3);
        if (kind == 1) return most + 1 + next(3);
        if (kind == 2) return next(2) == 0 ? Integer.MIN_VALUE : Integer.MAX_VALUE;
        return next(most + 1);
    }

    private int object() {
        return next(20) == 0 ? number(8) : 1 + next((1 << model.individuals()) - 1);
    }

    private void worldCalls() {
        int kind = next(12);
        if (kind == 0 && next(3) == 0) {
            furnish();
        } else if (kind == 0) {
            int individuals = number(3);
            same("setIndividuals(" + individuals + ")", tested.setIndividuals(individuals), model.setIndividuals(individuals));
        } else if (kind < 6) {
            setPredicate(number(2), number((1 << model.individuals()) - 1));
        } else {
            setPair(number(1), number(model.individuals() - 1), number(model.individuals() - 1), next(3) == 0 ? number(1) : 1);
        }
    }

    private void setPredicate(int predicate, int set) {
        same("setPredicate(" + predicate + ", " + set + ")", tested.setPredicate(predicate, set), model.setPredicate(predicate, set));
    }

    private void setPair(int relation, int from, int to, int holds) {
        same("setPair(" + relation + ", " + from + ", " + to + ", " + holds + ")",
            tested.setPair(relation, from, to, holds), model.setPair(relation, from, to, holds));
    }

    private void otherActions() {
        int kind = next(12);
        if (kind == 0) {
            same("resetContext()", tested.resetContext(), model.resetContext());
        } else if (kind < 4) {
            int on = number(1);
            same("setAccommodation(" + on + ")", tested.setAccommodation(on), model.setAccommodation(on));
        } else if (kind < 7) {
            same("undo()", tested.undo(), model.undo());
            if (next(3) == 0) same("undo()", tested.undo(), model.undo());
        } else {
            same("accept()", tested.accept(), model.accept());
        }
    }

    private void textCalls() {
        same("clearText()", tested.clearText(), model.clearText());
        String text = text();
        for (int i = 0; i < text.length(); i++) type(text.charAt(i));
        same("syntaxFault()", tested.syntaxFault(), model.syntaxFault());
        ask();
        ask();
        if (next(3) > 0) same("accept()", tested.accept(), model.accept());
        observe();
    }

    private void type(int character) {
        int due = next(400) == 0 ? wrongCharacter() : character;
        same("type(" + due + ")", tested.type(due), model.type(due));
    }

    private static int wrongCharacter() {
        int kind = next(6);
        return kind == 0 ? 31 : kind == 1 ? 127 : kind == 2 ? -1 : kind == 3 ? 65536 + 'x' : kind == 4 ? Integer.MIN_VALUE : SIGNS.charAt(next(SIGNS.length()));
    }

    // ---- texts

    private String text() {
        StringBuilder text = new StringBuilder();
        int kind = next(10);
        if (kind == 0) {
            int length = next(8);
            for (int i = 0; i < length; i++) text.append(SIGNS.charAt(next(SIGNS.length())));
            return text.toString();
        }
        if (kind == 4 && next(3) == 0) return deepText();
        int parts = 1 + next(4);
        int known = next(4) == 0 ? 7 : model.known();
        for (int i = 0; i < parts; i++) {
            if (i > 0) text.append(';');
            boolean bracket = next(3) == 0;
            if (bracket) text.append('[');
            if (next(3) == 0) {
                int variable = next(3);
                text.append('E').append((char) ('x' + variable)).append('&');
                known |= 1 << variable;
            }
            formula(text, known, 3);
            if (bracket) text.append(']');
        }
        if (kind == 1 && text.length() > 0) text.setCharAt(next(text.length()), SIGNS.charAt(next(SIGNS.length())));
        if (kind == 2 && next(2) == 0) text.setLength(next(text.length() + 1));
        if (kind == 3 && next(2) == 0) text.insert(0, "!!!!!!!".substring(next(7)));
        return text.length() > 60 && next(10) > 0 ? text() : text.toString();
    }

    /** Some seven to eleven open signs, of which some are closed and opened again. */
    private static String deepText() {
        StringBuilder text = new StringBuilder();
        int brackets = 0;
        int signs = 7 + next(5);
        for (int i = 0; i < signs; i++) {
            int kind = next(4);
            if (kind == 0) {
                text.append('!');
            } else if (kind == 1) {
                text.append('(');
                brackets++;
            } else {
                text.append("Ex");
                if (kind == 2 && brackets > 0 && next(2) == 0) {
                    text.append(')');
                    brackets--;
                }
                text.append(next(5) == 0 ? '&' : next(5) == 0 ? '|' : '>');
            }
        }
        text.append("Ey");
        while (brackets-- > 0) text.append(')');
        if (next(4) == 0) text.append(">Ez");
        return text.toString();
    }

    private static void formula(StringBuilder text, int known, int levels) {
        choice(text, known, levels);
        if (next(4) == 0) {
            text.append('>');
            formula(text, known, levels - 1);
        }
    }

    private static void choice(StringBuilder text, int known, int levels) {
        row(text, known, levels);
        while (next(5) == 0) {
            text.append('|');
            row(text, known, levels);
        }
    }

    private static void row(StringBuilder text, int known, int levels) {
        unit(text, known, levels);
        while (next(3) == 0) {
            text.append('&');
            unit(text, known, levels);
        }
    }

    private static void unit(StringBuilder text, int known, int levels) {
        int kind = next(12);
        if (levels > 0 && kind == 0) {
            text.append('!');
            unit(text, known, levels - 1);
        } else if (levels > 0 && kind < 3) {
            text.append('(');
            formula(text, known, levels - 1);
            text.append(')');
        } else if (kind < 6 || known == 0) {
            text.append('E').append((char) ('x' + next(3)));
        } else {
            simple(text, known);
        }
    }

    private static void simple(StringBuilder text, int known) {
        int kind = next(6);
        if (kind < 2) text.append((char) ('p' + next(3))).append(variable(known));
        else if (kind == 2) text.append((char) ('s' + next(2))).append(variable(known)).append(variable(known));
        else if (kind == 3) text.append(variable(known)).append('=').append(variable(known));
        else if (kind == 4) text.append(variable(known)).append('<').append(variable(known));
        else text.append('#').append((char) ('1' + next(3))).append(variable(known));
    }

    private static char variable(int known) {
        int variable = next(3);
        for (int i = 0; i < 3 && (known >> variable & 1) == 0 && next(30) > 0; i++) variable = (variable + 1) % 3;
        return (char) ('x' + variable);
    }

    // ---- questions

    private void ask() {
        int kind = next(16);
        if (kind == 0) same("unknownVariable()", tested.unknownVariable(), model.unknownVariable());
        else if (kind == 1) same("unknownDepth()", tested.unknownDepth(), model.unknownDepth());
        else if (kind == 2) same("partCount()", tested.partCount(), model.partCount());
        else if (kind < 5) same("acceptable()", tested.acceptable(), model.acceptable());
        else if (kind < 7) same("failingAt()", tested.failingAt(), model.failingAt());
        else if (kind < 9) same("supports()", tested.supports(), model.supports());
        else if (kind == 9) same("worldsTrue()", tested.worldsTrue(), model.worldsTrue());
        else if (kind == 10) same("historySize()", tested.historySize(), model.historySize());
        else if (kind < 13) askSizeBehind();
        else if (kind == 13) askPart(number(3));
        else askWorld();
    }

    private void askSizeBehind() {
        int parts = number(4);
        same("sizeBehind(" + parts + ")", tested.sizeBehind(parts), model.sizeBehind(parts));
    }

    private void askPart(int index) {
        same("accommodatedPart(" + index + ")", tested.accommodatedPart(index), model.accommodatedPart(index));
    }

    private void askWorld() {
        int predicate = number(2);
        int relation = number(1);
        int one = object();
        int other = object();
        same("individuals()", tested.individuals(), model.individuals());
        same("predicate(" + predicate + ")", tested.predicate(predicate), model.predicate(predicate));
        same("relationHolds(" + relation + ", " + one + ", " + other + ")",
            tested.relationHolds(relation, one, other), model.relationHolds(relation, one, other));
    }

    private void observe() {
        int variable = number(2);
        int other = number(2);
        int object = object();
        int otherObject = object();
        same("contextSize()", tested.contextSize(), model.contextSize());
        same("known()", tested.known(), model.known());
        same("objects(" + variable + ")", tested.objects(variable), model.objects(variable));
        same("together(" + variable + ", " + object + ", " + other + ", " + otherObject + ")",
            tested.together(variable, object, other, otherObject), model.together(variable, object, other, otherObject));
        same("accommodated()", tested.accommodated(), model.accommodated());
        askPart(0);
    }
}
