import java.util.stream.IntStream;

/** What the test classes share: answers that are due, texts, and all that can be told of an object. */
abstract class Checks {
    static final int INVALID = -1;
    static final int SYNTAX = -2;
    static final int UNKNOWN = -3;
    static final int FAILS = -4;
    static final int FULL = -5;
    static final int ILLEGAL = -6;
    static final int NONE = -7;
    static final int LEAST = Integer.MIN_VALUE;
    static final int MOST = Integer.MAX_VALUE;

    static final int[] WORLDS = {1, 2, 3};
    static final int[] PREDICATES = {0, 1, 2};
    static final int[] RELATIONS = {0, 1};
    static final int[] VARIABLES = {0, 1, 2};
    static final int[] SWITCHES = {0, 1};
    /** 20 parts, 59 characters. */
    static final String TWENTY_PARTS = "Ex;Ex;Ex;Ex;Ex;Ex;Ex;Ex;Ex;Ex;Ex;Ex;Ex;Ex;Ex;Ex;Ex;Ex;Ex;Ex";

    private static int wrong = 0;
    private static String about = "";

    /** Makes an object and brings it into some state; each call makes another one, in the same state. */
    interface Made {
        DiscourseContexts make();
    }

    interface Call {
        int on(DiscourseContexts d);
    }

    static void promise(int number) {
        about = "promise " + number;
    }

    static void promise(int number, String sentence) {
        about = "promise " + number + ", '" + sentence + "'";
    }

    /** A sentence that stands ahead of the promises, in the section named. */
    static void sentence(String section, String sentence) {
        about = section + ", '" + sentence + "'";
    }

    static void due(String what, int got, int want) {
        if (got != want) {
            wrong++;
            System.out.println(about + ": " + what + " answered " + got + ", due is " + want);
        }
    }

    static void same(String what, String got, String want) {
        if (!got.equals(want)) {
            wrong++;
            System.out.println(about + ": " + what + " is not the same:\n  " + got + "\nwhere due is\n  " + want);
        }
    }

    static void finish() {
        System.out.println(wrong == 0 ? "all answers are as due" : wrong + " answers are not as due");
        if (wrong != 0) System.exit(1);
    }

    // ---- arguments

    /** One below and one above a range, the ends of int, and what a shift or a cast could take for a number in the range. */
    static int[] outside(int least, int most) {
        return IntStream.of(least - 1, most + 1, LEAST, MOST, least - 32, most + 32, least - 256, most + 256,
            least - 65536, most + 65536, LEAST + least, LEAST + most).filter(i -> i < least || i > most).distinct().toArray();
    }

    /** The largest object of a world, which is its largest set too. */
    static int everybody(int individuals) {
        return (1 << individuals) - 1;
    }

    // ---- objects in some state

    static DiscourseContexts write(DiscourseContexts d, String text) {
        d.clearText();
        for (int i = 0; i < text.length(); i++) d.type(text.charAt(i));
        return d;
    }

    static DiscourseContexts written(String text) {
        return write(new DiscourseContexts(), text);
    }

    static int accept(DiscourseContexts d, String text) {
        return write(d, text).accept();
    }

    static DiscourseContexts world(int individuals) {
        DiscourseContexts d = new DiscourseContexts();
        if (individuals != 2) d.setIndividuals(individuals);
        return d;
    }

    /** A world in whose context each known variable can have each object. */
    static DiscourseContexts knowing(int individuals, String text) {
        DiscourseContexts d = world(individuals);
        accept(d, text);
        return d;
    }

    /** Six actions lie behind it: a full history, a context, a text, and with several individuals an accommodated part. */
    static DiscourseContexts lived(int individuals) {
        DiscourseContexts d = new DiscourseContexts();
        d.setIndividuals(individuals);
        d.setPredicate(0, everybody(individuals));
        d.setPredicate(1, 1);
        d.setPair(0, 0, individuals - 1, 1);
        d.setAccommodation(1);
        accept(d, "Ex;[qx];Ey");
        return d;
    }

    /** A context without assignments, in which x is known. */
    static DiscourseContexts withoutAssignments(int individuals) {
        return knowing(individuals, "Ex;!(x=x)");
    }

    // ---- what can be told of an object

    /** All that the questions answer on an object and on each state of its history; no object is called more than 512 times. */
    static String told(Made made) {
        StringBuilder told = new StringBuilder();
        DiscourseContexts d = made.make();
        tellText(d, told);
        tellTogether(d, told);
        tellState(d, told);
        told.append("\n  length ").append(d.clearText());
        for (int left = d.historySize(); left > 0; left--) {
            told.append("\n  undo ").append(d.undo());
            tellState(d, told);
        }
        tellSwitches(made.make(), told);
        return told.toString();
    }

    private static void tellText(DiscourseContexts d, StringBuilder told) {
        told.append("text ").append(d.syntaxFault()).append(' ').append(d.unknownVariable());
        told.append(' ').append(d.unknownDepth()).append(' ').append(d.partCount());
        told.append(' ').append(d.acceptable()).append(' ').append(d.failingAt());
        told.append(' ').append(d.supports()).append(' ').append(d.worldsTrue()).append(" behind");
        for (int parts = 0; parts <= d.partCount(); parts++) told.append(' ').append(d.sizeBehind(parts));
    }

    private static void tellTogether(DiscourseContexts d, StringBuilder told) {
        int all = everybody(d.individuals());
        told.append("\n  together");
        for (int one = 1; one <= all; one++) {
            for (int other = 1; other <= all; other++) {
                told.append(' ').append(d.together(0, one, 1, other));
                told.append(' ').append(d.together(1, one, 2, other));
            }
        }
    }

    private static void tellState(DiscourseContexts d, StringBuilder told) {
        int individuals = d.individuals();
        told.append("\n  history ").append(d.historySize()).append(" individuals ").append(individuals).append(" sets");
        for (int predicate : PREDICATES) told.append(' ').append(d.predicate(predicate));
        told.append(" pairs ");
        for (int pair = 0; pair < individuals * individuals; pair++) {
            int from = 1 << pair / individuals;
            int to = 1 << pair % individuals;
            told.append(d.relationHolds(0, from, to)).append(d.relationHolds(1, from, to));
        }
        told.append(" context ").append(d.contextSize()).append(" known ").append(d.known()).append(" objects");
        for (int variable : VARIABLES) told.append(' ').append(d.objects(variable));
        told.append(" accommodated ").append(d.accommodated());
        for (int index = 0; index <= d.accommodated(); index++) told.append(' ').append(d.accommodatedPart(index));
    }

    /** Turning the switch records a state, so that the oldest one of a full history is not told. */
    private static void tellSwitches(DiscourseContexts d, StringBuilder told) {
        told.append("\n  accommodation ").append(d.setAccommodation(0));
        for (int left = d.undo(); left > 0; left--) {
            d.undo();
            told.append(' ').append(d.setAccommodation(0));
            d.undo();
        }
    }

    /** "A call that returns an error code changes nothing." */
    static void refused(String what, Made made, Call call, int error) {
        asked(what, made, call, error);
    }

    /** A call that answers and changes nothing. */
    static void asked(String what, Made made, Call call, int want) {
        Made called = () -> {
            DiscourseContexts d = made.make();
            due(what, call.on(d), want);
            return d;
        };
        same("what is told behind " + what, told(called), told(made));
    }

    /** An action: the state before it is recorded, and undo() brings it back. */
    static void acted(String what, Made made, Call call, int want) {
        DiscourseContexts d = made.make();
        int before = d.historySize();
        due(what, call.on(d), want);
        due("historySize() behind " + what, d.historySize(), Math.min(before + 1, 5));
        due("undo() of " + what, d.undo(), Math.min(before, 4));
        DiscourseContexts twin = made.make();
        if (before == 5) {
            // The twin, too, loses its oldest state.
            twin.resetContext();
            twin.undo();
        }
        same("what is told behind undo() of " + what, present(d), present(twin));
    }

    /** What the questions answer on an object now, and whether the accommodation is on. */
    private static String present(DiscourseContexts d) {
        StringBuilder told = new StringBuilder();
        tellText(d, told);
        tellTogether(d, told);
        tellState(d, told);
        return told.append("\n  accommodation ").append(d.setAccommodation(0)).toString();
    }
}
