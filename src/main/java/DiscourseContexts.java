/** A model of discourse in dynamic predicate logic with plural objects. */
public final class DiscourseContexts {
    public static final int INVALID_ARGUMENT = -1;
    public static final int SYNTAX_FAULT = -2;
    public static final int UNKNOWN_VARIABLE = -3;
    public static final int PRESUPPOSITION_FAILS = -4;
    public static final int CAPACITY_EXCEEDED = -5;
    public static final int ILLEGAL_STATE = -6;
    public static final int NONE = -7;

    private static final int MOST_INDIVIDUALS = 3;
    private static final int MOST_OBJECTS = 7;
    private static final int INDIVIDUALS_AT_FIRST = 2;
    private static final int PREDICATES = 3;
    private static final int RELATIONS = 2;
    private static final int VARIABLES = 3;
    private static final int TEXT_ROOM = 60;
    private static final int MOST_OPEN_SIGNS = 8;
    private static final int HISTORY_ROOM = 5;
    private static final int FIRST_CHARACTER = 32;
    private static final int LAST_CHARACTER = 126;
    // No character of a text is 0, so it can stand for what lies behind the last one.
    private static final char END = 0;

    // The kinds of the nodes that a text is parsed into.
    private static final int PART = 0;
    private static final int PRESUPPOSITION = 1;
    private static final int ROW = 2;
    private static final int CHOICE = 3;
    private static final int CONDITION = 4;
    private static final int NEGATION = 5;
    private static final int SOME = 6;
    private static final int PREDICATE = 7;
    private static final int RELATION = 8;
    private static final int EQUAL = 9;
    private static final int WITHIN = 10;
    private static final int COUNT = 11;

    private final State now = new State();
    private final History history = new History();
    private final Text text = new Text();
    private final Parser parser = new Parser(text);
    private final Knowledge knowledge = new Knowledge();
    private final Meaning meaning = new Meaning(now.world);
    private final Acceptance acceptance = new Acceptance(meaning);
    private final World otherWorld = new World();
    private final Meaning otherMeaning = new Meaning(otherWorld);
    private final Assignments results = new Assignments();

    public DiscourseContexts() {
    }

    // ---- world

    public int setIndividuals(int individuals) {
        if (individuals < 1 || individuals > MOST_INDIVIDUALS) {
            return INVALID_ARGUMENT;
        }
        int previous = now.world.population;
        history.record(now);
        now.world.begin(individuals);
        now.forgetContext();
        return previous;
    }

    public int setPredicate(int predicate, int set) {
        if (!isPredicate(predicate) || set < 0 || set > now.world.everybody()) {
            return INVALID_ARGUMENT;
        }
        int previous = now.world.setOf(predicate);
        history.record(now);
        now.world.giveSet(predicate, set);
        return previous;
    }

    public int setPair(int relation, int from, int to, int holds) {
        if (!isRelation(relation) || !isIndividual(from) || !isIndividual(to) || !isSwitch(holds)) {
            return INVALID_ARGUMENT;
        }
        int previous = now.world.hasPair(relation, from, to) ? 1 : 0;
        history.record(now);
        now.world.putPair(relation, from, to, holds == 1);
        return previous;
    }

    public int individuals() {
        return now.world.population;
    }

    public int predicate(int predicate) {
        return isPredicate(predicate) ? now.world.setOf(predicate) : INVALID_ARGUMENT;
    }

    public int relationHolds(int relation, int one, int other) {
        if (!isRelation(relation) || !isObject(one) || !isObject(other)) {
            return INVALID_ARGUMENT;
        }
        return now.world.relates(relation, one, other) ? 1 : 0;
    }

    // ---- text

    public int type(int character) {
        if (character < FIRST_CHARACTER || character > LAST_CHARACTER) {
            return INVALID_ARGUMENT;
        }
        return text.append((char) character) ? text.length : CAPACITY_EXCEEDED;
    }

    public int clearText() {
        int length = text.length;
        text.length = 0;
        return length;
    }

    public int syntaxFault() {
        return parser.discourse() == null ? parser.position : NONE;
    }

    public int unknownVariable() {
        Node discourse = parser.discourse();
        if (discourse == null) {
            return SYNTAX_FAULT;
        }
        return knowledge.suffices(discourse, now.knownVariables) ? NONE : knowledge.unknownAt;
    }

    public int unknownDepth() {
        Node discourse = parser.discourse();
        if (discourse == null) {
            return SYNTAX_FAULT;
        }
        return knowledge.suffices(discourse, now.knownVariables) ? NONE : knowledge.scopesAround;
    }

    public int partCount() {
        Node discourse = parser.discourse();
        if (discourse == null) {
            return SYNTAX_FAULT;
        }
        int parts = 0;
        for (Node part = discourse.first; part != null; part = part.next) {
            parts++;
        }
        return parts;
    }

    // ---- context

    public int contextSize() {
        return now.context.size();
    }

    public int known() {
        return now.knownVariables;
    }

    public int objects(int variable) {
        if (!isVariable(variable)) {
            return INVALID_ARGUMENT;
        }
        return now.knows(variable) ? now.context.valuesOf(variable) : NONE;
    }

    public int together(int variable, int object, int other, int otherObject) {
        if (!isVariable(variable) || !isObject(object) || !isVariable(other) || !isObject(otherObject)) {
            return INVALID_ARGUMENT;
        }
        if (!now.knows(variable) || !now.knows(other)) {
            return NONE;
        }
        return now.context.countOf(variable, object, other, otherObject);
    }

    public int resetContext() {
        int size = now.context.size();
        history.record(now);
        now.forgetContext();
        return size;
    }

    public int setAccommodation(int on) {
        if (!isSwitch(on)) {
            return INVALID_ARGUMENT;
        }
        int previous = now.accommodating ? 1 : 0;
        history.record(now);
        now.accommodating = on == 1;
        return previous;
    }

    // ---- accepting

    public int accept() {
        int size = tryAccepting(parser.discourse());
        if (size < 0) {
            return size;
        }
        history.record(now);
        now.context.copyFrom(acceptance.context);
        now.knownVariables = knowledge.knownBehind;
        now.accommodatedParts = acceptance.accommodatedParts;
        return size;
    }

    public int acceptable() {
        return tryAccepting(parser.discourse());
    }

    public int failingAt() {
        int size = tryAccepting(parser.discourse());
        if (size == PRESUPPOSITION_FAILS) {
            return acceptance.failingPlace;
        }
        return size < 0 ? size : NONE;
    }

    public int accommodated() {
        return Long.bitCount(now.accommodatedParts);
    }

    public int accommodatedPart(int index) {
        if (index < 0) {
            return INVALID_ARGUMENT;
        }
        int ahead = 0;
        for (int part = 0; part < TEXT_ROOM; part++) {
            if ((now.accommodatedParts >>> part & 1L) != 0L) {
                if (ahead == index) {
                    return part;
                }
                ahead++;
            }
        }
        return NONE;
    }

    // ---- questions, in which presuppositions are taken as formulas without brackets

    public int sizeBehind(int parts) {
        if (parts < 0) {
            return INVALID_ARGUMENT;
        }
        Node discourse = parser.discourse();
        if (discourse == null) {
            return SYNTAX_FAULT;
        }
        if (!knowledge.suffices(discourse, now.knownVariables)) {
            return UNKNOWN_VARIABLE;
        }
        int behind = 0;
        results.copyFrom(now.context);
        for (Node part = discourse.first; part != null && behind < parts; part = part.next) {
            meaning.turn(part, results, false);
            behind++;
        }
        return behind == parts ? results.size() : NONE;
    }

    public int supports() {
        Node discourse = parser.discourse();
        if (discourse == null) {
            return SYNTAX_FAULT;
        }
        if (!knowledge.suffices(discourse, now.knownVariables)) {
            return UNKNOWN_VARIABLE;
        }
        meaning.findSupporting(discourse, results);
        return now.context.isWithin(results) ? 1 : 0;
    }

    public int worldsTrue() {
        Node discourse = parser.discourse();
        if (discourse == null) {
            return SYNTAX_FAULT;
        }
        if (!knowledge.suffices(discourse, 0)) {
            return UNKNOWN_VARIABLE;
        }
        int worlds = 0;
        int everybody = now.world.everybody();
        otherWorld.copyFrom(now.world);
        for (int p = 0; p <= everybody; p++) {
            for (int q = 0; q <= everybody; q++) {
                otherWorld.giveSet(0, p);
                otherWorld.giveSet(1, q);
                worlds += isTrueInOtherWorld(discourse) ? 1 : 0;
            }
        }
        return worlds;
    }

    // ---- history

    public int historySize() {
        return history.size;
    }

    public int undo() {
        return history.restore(now) ? history.size : ILLEGAL_STATE;
    }

    /** What accept() answers; its outcome is left in acceptance and knowledge. */
    private int tryAccepting(Node discourse) {
        if (discourse == null) {
            return SYNTAX_FAULT;
        }
        if (!knowledge.suffices(discourse, now.knownVariables)) {
            return UNKNOWN_VARIABLE;
        }
        return acceptance.succeeds(discourse, now) ? acceptance.context.size() : PRESUPPOSITION_FAILS;
    }

    private boolean isTrueInOtherWorld(Node discourse) {
        results.makeFirst();
        otherMeaning.turn(discourse, results, false);
        return !results.isEmpty();
    }

    private boolean isIndividual(int individual) {
        return individual >= 0 && individual < now.world.population;
    }

    private boolean isObject(int object) {
        return object >= 1 && object <= now.world.everybody();
    }

    private static boolean isPredicate(int predicate) {
        return predicate >= 0 && predicate < PREDICATES;
    }

    private static boolean isRelation(int relation) {
        return relation >= 0 && relation < RELATIONS;
    }

    private static boolean isVariable(int variable) {
        return variable >= 0 && variable < VARIABLES;
    }

    private static boolean isSwitch(int value) {
        return value == 0 || value == 1;
    }

    /**
     * A set of assignments. Bit 8 * y + x of word z stands for the assignment that gives these
     * objects; an object 0, which no world has, stands for a variable that is not known.
     * Sets of objects ("values") are numbers whose bit k stands for the object k.
     */
    private static final class Assignments {
        private static final int WORDS = 8;
        private static final int ALL_VALUES = 255;
        private static final long LOW_BITS = 0x0101010101010101L;
        // Copies of a set of values, each seven bits on, have the bit of the value k at 8 * k. They
        // do not disturb one another, because no set that is multiplied by this has the value 0.
        private static final long SEVEN_ON = 0x0002040810204081L;

        private final long[] words = new long[WORDS];

        void makeFirst() {
            fill(0L);
            words[0] = 1L;
        }

        void fill(long word) {
            for (int w = 0; w < WORDS; w++) {
                words[w] = word;
            }
        }

        void copyFrom(Assignments other) {
            for (int w = 0; w < WORDS; w++) {
                words[w] = other.words[w];
            }
        }

        void unite(Assignments other) {
            for (int w = 0; w < WORDS; w++) {
                words[w] |= other.words[w];
            }
        }

        void keep(Assignments other) {
            for (int w = 0; w < WORDS; w++) {
                words[w] &= other.words[w];
            }
        }

        void remove(Assignments other) {
            for (int w = 0; w < WORDS; w++) {
                words[w] &= ~other.words[w];
            }
        }

        void complement() {
            for (int w = 0; w < WORDS; w++) {
                words[w] = ~words[w];
            }
        }

        boolean isWithin(Assignments other) {
            for (int w = 0; w < WORDS; w++) {
                if ((words[w] & ~other.words[w]) != 0L) {
                    return false;
                }
            }
            return true;
        }

        boolean isEmpty() {
            return size() == 0;
        }

        int size() {
            int size = 0;
            for (int w = 0; w < WORDS; w++) {
                size += Long.bitCount(words[w]);
            }
            return size;
        }

        int countOf(int variable, int value, int other, int otherValue) {
            int count = 0;
            for (int w = 0; w < WORDS; w++) {
                count += Long.bitCount(words[w] & mask(variable, 1 << value, w) & mask(other, 1 << otherValue, w));
            }
            return count;
        }

        int valuesOf(int variable) {
            int values = 0;
            for (int value = 1; value <= MOST_OBJECTS; value++) {
                if (countOf(variable, value, variable, value) > 0) {
                    values |= 1 << value;
                }
            }
            return values;
        }

        void keepValues(int variable, int values) {
            for (int w = 0; w < WORDS; w++) {
                words[w] &= mask(variable, values, w);
            }
        }

        /** Of the assignments that give value to variable, keeps those that give one of the values to other. */
        void keepPartners(int variable, int value, int other, int otherValues) {
            for (int w = 0; w < WORDS; w++) {
                words[w] &= ~mask(variable, 1 << value, w) | mask(other, otherValues, w);
            }
        }

        /** Gives each of the values "to" to the variable, in each assignment that gives it one of "from". */
        void vary(int variable, int from, int to) {
            if (variable == 2) {
                varyWords(from, to);
                return;
            }
            int step = variable == 0 ? 1 : WORDS;
            long unset = variable == 0 ? LOW_BITS : ALL_VALUES;
            for (int w = 0; w < WORDS; w++) {
                words[w] = varied(words[w], step, unset, from, to);
            }
        }

        private void varyWords(int from, int to) {
            long any = 0L;
            for (int w = 0; w < WORDS; w++) {
                any |= (from >>> w & 1) != 0 ? words[w] : 0L;
            }
            for (int w = 0; w < WORDS; w++) {
                words[w] = (to >>> w & 1) != 0 ? any : 0L;
            }
        }

        private static long varied(long word, int step, long unset, int from, int to) {
            long any = 0L;
            for (int value = 0; value < WORDS; value++) {
                any |= (from >>> value & 1) != 0 ? word >>> value * step & unset : 0L;
            }
            long result = 0L;
            for (int value = 0; value < WORDS; value++) {
                result |= (to >>> value & 1) != 0 ? any << value * step : 0L;
            }
            return result;
        }

        /** The bits of a word that stand for assignments with one of the values for the variable. */
        private static long mask(int variable, int values, int word) {
            if (variable == 0) {
                return values * LOW_BITS;
            }
            if (variable == 2) {
                return (values >>> word & 1) != 0 ? -1L : 0L;
            }
            return (values * SEVEN_ON & LOW_BITS) * ALL_VALUES;
        }
    }

    /** Individuals with the sets of the predicates and relations. */
    private static final class World {
        private int population = INDIVIDUALS_AT_FIRST;
        private final int[] sets = new int[PREDICATES];
        // Bit MOST_INDIVIDUALS * from + to of an element stands for a pair.
        private final int[] pairs = new int[RELATIONS];

        void begin(int individuals) {
            population = individuals;
            for (int predicate = 0; predicate < PREDICATES; predicate++) {
                sets[predicate] = 0;
            }
            for (int relation = 0; relation < RELATIONS; relation++) {
                pairs[relation] = 0;
            }
        }

        void copyFrom(World other) {
            population = other.population;
            for (int predicate = 0; predicate < PREDICATES; predicate++) {
                sets[predicate] = other.sets[predicate];
            }
            for (int relation = 0; relation < RELATIONS; relation++) {
                pairs[relation] = other.pairs[relation];
            }
        }

        /** The largest object. */
        int everybody() {
            return (1 << population) - 1;
        }

        int setOf(int predicate) {
            return isPredicate(predicate) ? sets[predicate] : 0;
        }

        void giveSet(int predicate, int set) {
            if (isPredicate(predicate)) {
                sets[predicate] = set;
            }
        }

        boolean hasPair(int relation, int from, int to) {
            return isRelation(relation) && (pairs[relation] >>> MOST_INDIVIDUALS * from + to & 1) != 0;
        }

        void putPair(int relation, int from, int to, boolean holds) {
            if (isRelation(relation)) {
                int bit = 1 << MOST_INDIVIDUALS * from + to;
                pairs[relation] = holds ? pairs[relation] | bit : pairs[relation] & ~bit;
            }
        }

        boolean relates(int relation, int one, int other) {
            if (!isRelation(relation)) {
                return false;
            }
            int reached = 0;
            for (int from = 0; from < MOST_INDIVIDUALS; from++) {
                if ((one >>> from & 1) != 0) {
                    int partners = pairs[relation] >>> MOST_INDIVIDUALS * from & other;
                    if (partners == 0) {
                        return false;
                    }
                    reached |= partners;
                }
            }
            return reached == other;
        }
    }

    /** All that undo() brings back. */
    private static final class State {
        private final World world = new World();
        private final Assignments context = new Assignments();
        private int knownVariables;
        private boolean accommodating;
        private long accommodatedParts;

        State() {
            context.makeFirst();
        }

        void forgetContext() {
            context.makeFirst();
            knownVariables = 0;
        }

        boolean knows(int variable) {
            return (knownVariables >>> variable & 1) != 0;
        }

        void copyFrom(State other) {
            world.copyFrom(other.world);
            context.copyFrom(other.context);
            knownVariables = other.knownVariables;
            accommodating = other.accommodating;
            accommodatedParts = other.accommodatedParts;
        }
    }

    private static final class History {
        private final State[] states = new State[HISTORY_ROOM];
        // The latest state stands ahead of this place, the oldest one at it once the history is full.
        private int place;
        private int size;

        History() {
            for (int i = 0; i < HISTORY_ROOM; i++) {
                states[i] = new State();
            }
        }

        void record(State state) {
            if (place < 0 || place >= HISTORY_ROOM || states[place] == null) {
                return;
            }
            states[place].copyFrom(state);
            place = place + 1 < HISTORY_ROOM ? place + 1 : 0;
            size = Math.min(size + 1, HISTORY_ROOM);
        }

        boolean restore(State into) {
            int latest = place > 0 ? place - 1 : HISTORY_ROOM - 1;
            if (size == 0 || latest >= HISTORY_ROOM || states[latest] == null) {
                return false;
            }
            into.copyFrom(states[latest]);
            place = latest;
            size--;
            return true;
        }
    }

    private static final class Text {
        private final char[] characters = new char[TEXT_ROOM];
        private int length;

        boolean append(char character) {
            if (length < 0 || length >= TEXT_ROOM) {
                return false;
            }
            characters[length] = character;
            length++;
            return true;
        }

        char at(int index) {
            return index >= 0 && index < length && index < TEXT_ROOM ? characters[index] : END;
        }
    }

    /** A piece of a parsed text, with a chain of the pieces in it. */
    private static final class Node {
        private int kind;
        // Which predicate, which relation or how many individuals.
        private int number;
        // Where its variables stand in the text (twice the same place if it has only one), and which these are.
        private int place;
        private int otherPlace;
        private int variable;
        private int otherVariable;
        private Node first;
        private Node last;
        private Node next;
        private Node previous;
        // Room for its meaning, made once, because a call that made sets anew would make too many.
        private final Assignments found = new Assignments();
        private final Assignments foundInRow = new Assignments();

        void add(Node piece) {
            piece.previous = last;
            if (last == null) {
                first = piece;
            } else {
                last.next = piece;
            }
            last = piece;
        }
    }

    /**
     * Parses the text by recursive descent. A method that meets a character that cannot stand at
     * its place returns null and leaves the position at it, and so do all methods that called it.
     */
    private static final class Parser {
        // Each node but the discourse and its first part has a character of its own.
        private static final int NODES = TEXT_ROOM + 2;

        private final Text text;
        private final Node[] nodes = new Node[NODES];
        private int used;
        private int openSigns;
        private int position;

        Parser(Text text) {
            this.text = text;
            for (int i = 0; i < NODES; i++) {
                nodes[i] = new Node();
            }
        }

        /** The row of the parts of the text. */
        Node discourse() {
            used = 0;
            openSigns = 0;
            position = 0;
            Node discourse = holding(ROW, part());
            for (int i = 0; i < TEXT_ROOM && discourse != null && skip(';'); i++) {
                discourse = joined(discourse, part());
            }
            return position == text.length ? discourse : null;
        }

        private Node part() {
            int start = position;
            boolean presupposed = skip('[');
            Node formula = formula();
            if (formula == null || presupposed && !skip(']')) {
                return null;
            }
            Node part = holding(presupposed ? PRESUPPOSITION : PART, formula);
            if (part != null) {
                part.place = start;
            }
            return part;
        }

        private Node formula() {
            Node ahead = choice();
            if (ahead == null || text.at(position) != '>') {
                return ahead;
            }
            if (!openSign()) {
                return null;
            }
            Node behind = formula();
            openSigns--;
            return joined(holding(CONDITION, ahead), behind);
        }

        private Node choice() {
            Node choice = row();
            if (text.at(position) == '|') {
                choice = holding(CHOICE, choice);
            }
            for (int i = 0; i < TEXT_ROOM && choice != null && skip('|'); i++) {
                choice = joined(choice, row());
            }
            return choice;
        }

        private Node row() {
            Node row = unit();
            if (text.at(position) == '&') {
                row = holding(ROW, row);
            }
            for (int i = 0; i < TEXT_ROOM && row != null && skip('&'); i++) {
                row = joined(row, unit());
            }
            return row;
        }

        private Node unit() {
            char sign = text.at(position);
            switch (sign) {
                case '!':
                    return negation();
                case '(':
                    return group();
                case 'E':
                    position++;
                    return aboutOne(SOME, 0);
                case 'p':
                case 'q':
                case 'r':
                    position++;
                    return aboutOne(PREDICATE, sign - 'p');
                case 's':
                case 't':
                    position++;
                    return aboutTwo(sign - 's');
                case '#':
                    position++;
                    return count(text.at(position) - '0');
                default:
                    return comparison();
            }
        }

        private Node negation() {
            if (!openSign()) {
                return null;
            }
            Node unit = unit();
            openSigns--;
            return holding(NEGATION, unit);
        }

        private Node group() {
            if (!openSign()) {
                return null;
            }
            Node formula = formula();
            openSigns--;
            return formula != null && skip(')') ? formula : null;
        }

        private Node aboutOne(int kind, int number) {
            int start = position;
            return skipVariable() ? simple(kind, number, start, start) : null;
        }

        private Node aboutTwo(int relation) {
            int start = position;
            return skipVariable() && skipVariable() ? simple(RELATION, relation, start, start + 1) : null;
        }

        private Node count(int number) {
            if (number < 1 || number > MOST_INDIVIDUALS) {
                return null;
            }
            position++;
            return aboutOne(COUNT, number);
        }

        private Node comparison() {
            int start = position;
            if (!skipVariable()) {
                return null;
            }
            int kind = text.at(position) == '=' ? EQUAL : WITHIN;
            if (!skip('=') && !skip('<')) {
                return null;
            }
            return skipVariable() ? simple(kind, 0, start, start + 2) : null;
        }

        private Node simple(int kind, int number, int place, int otherPlace) {
            Node node = taken(kind);
            if (node != null) {
                node.number = number;
                node.place = place;
                node.otherPlace = otherPlace;
                node.variable = text.at(place) - 'x';
                node.otherVariable = text.at(otherPlace) - 'x';
            }
            return node;
        }

        private Node holding(int kind, Node piece) {
            return piece == null ? null : joined(taken(kind), piece);
        }

        private Node joined(Node node, Node piece) {
            if (node == null || piece == null) {
                return null;
            }
            node.add(piece);
            return node;
        }

        private Node taken(int kind) {
            if (used < 0 || used >= NODES || nodes[used] == null) {
                return null;
            }
            Node node = nodes[used];
            used++;
            node.kind = kind;
            node.first = null;
            node.last = null;
            node.next = null;
            node.previous = null;
            return node;
        }

        private boolean skip(char sign) {
            if (text.at(position) != sign) {
                return false;
            }
            position++;
            return true;
        }

        private boolean skipVariable() {
            char sign = text.at(position);
            if (sign < 'x' || sign > 'z') {
                return false;
            }
            position++;
            return true;
        }

        private boolean openSign() {
            if (openSigns >= MOST_OPEN_SIGNS) {
                return false;
            }
            openSigns++;
            position++;
            return true;
        }
    }

    /** Goes through a text from left to right and finds what is known where. */
    private static final class Knowledge {
        private int knownBehind;
        private int unknownAt;
        private int scopesAround;

        /** Whether no variable of the text is unknown. */
        boolean suffices(Node discourse, int knownAhead) {
            unknownAt = NONE;
            scopesAround = NONE;
            knownBehind = readOver(discourse, knownAhead, 0);
            return unknownAt == NONE;
        }

        /** Returns what is known behind the node. */
        private int readOver(Node node, int knownAhead, int scopes) {
            if (node == null) {
                return knownAhead;
            }
            switch (node.kind) {
                case PART:
                case PRESUPPOSITION:
                case ROW:
                    return readChain(node, knownAhead, scopes);
                case CONDITION:
                    readChain(node, knownAhead, scopes + 1);
                    return knownAhead;
                case NEGATION:
                case CHOICE:
                    readEach(node, knownAhead, scopes + 1);
                    return knownAhead;
                case SOME:
                    return knownAhead | 1 << node.variable;
                default:
                    look(node.variable, node.place, knownAhead, scopes);
                    look(node.otherVariable, node.otherPlace, knownAhead, scopes);
                    return knownAhead;
            }
        }

        private int readChain(Node node, int knownAhead, int scopes) {
            int known = knownAhead;
            for (Node piece = node.first; piece != null; piece = piece.next) {
                known = readOver(piece, known, scopes);
            }
            return known;
        }

        private void readEach(Node node, int knownAhead, int scopes) {
            for (Node piece = node.first; piece != null; piece = piece.next) {
                readOver(piece, knownAhead, scopes);
            }
        }

        private void look(int variable, int place, int known, int scopes) {
            if (unknownAt == NONE && (known >>> variable & 1) == 0) {
                unknownAt = place;
                scopesAround = scopes;
            }
        }
    }

    /**
     * Turns sets of assignments into others by a parsed text. All assignments go through a node
     * at once, because going through it for one after the other could take exponential time.
     */
    private static final class Meaning {
        private final World world;

        Meaning(World world) {
            this.world = world;
        }

        /**
         * Turns a set into that of all results of the node for its assignments, or, going back,
         * into that of all assignments for which the node has a result in the set.
         */
        private void turn(Node node, Assignments set, boolean back) {
            if (node == null) {
                return;
            }
            switch (node.kind) {
                case PART:
                case PRESUPPOSITION:
                case ROW:
                    turnByChain(node, set, back);
                    break;
                case SOME:
                    turnBySome(node, set, back);
                    break;
                case NEGATION:
                    findSupporting(node.first, node.found);
                    set.remove(node.found);
                    break;
                case CHOICE:
                    keepByChoice(node, set);
                    break;
                case CONDITION:
                    keepByCondition(node, set);
                    break;
                case PREDICATE:
                case COUNT:
                    keepByOne(node, set);
                    break;
                default:
                    keepByTwo(node, set);
                    break;
            }
        }

        /** Turns a set into that of all assignments for which the node has results. */
        private void findSupporting(Node node, Assignments set) {
            set.fill(-1L);
            turn(node, set, true);
        }

        private void turnByChain(Node node, Assignments set, boolean back) {
            for (Node piece = back ? node.last : node.first; piece != null; piece = back ? piece.previous : piece.next) {
                turn(piece, set, back);
            }
        }

        private void turnBySome(Node node, Assignments set, boolean back) {
            int objects = (1 << world.everybody() + 1) - 2;
            int from = back ? objects : Assignments.ALL_VALUES;
            int to = back ? Assignments.ALL_VALUES : objects;
            set.vary(node.variable, from, to);
        }

        private void keepByChoice(Node node, Assignments set) {
            node.found.fill(0L);
            for (Node row = node.first; row != null; row = row.next) {
                findSupporting(row, node.foundInRow);
                node.found.unite(node.foundInRow);
            }
            set.keep(node.found);
        }

        private void keepByCondition(Node node, Assignments set) {
            Assignments refuted = node.found;
            findSupporting(node.last, refuted);
            refuted.complement();
            turn(node.first, refuted, true);
            set.remove(refuted);
        }

        private void keepByOne(Node node, Assignments set) {
            int values = 0;
            int everybody = world.everybody();
            for (int object = 1; object <= everybody; object++) {
                values |= holds(node, object, object) ? 1 << object : 0;
            }
            set.keepValues(node.variable, values);
        }

        private void keepByTwo(Node node, Assignments set) {
            int everybody = world.everybody();
            for (int object = 1; object <= everybody; object++) {
                int partners = 0;
                for (int other = 1; other <= everybody; other++) {
                    partners |= holds(node, object, other) ? 1 << other : 0;
                }
                set.keepPartners(node.variable, object, node.otherVariable, partners);
            }
        }

        private boolean holds(Node node, int object, int other) {
            switch (node.kind) {
                case PREDICATE:
                    return (object & ~world.setOf(node.number)) == 0;
                case RELATION:
                    return world.relates(node.number, object, other);
                case EQUAL:
                    return object == other;
                case WITHIN:
                    return (object & ~other) == 0;
                case COUNT:
                    return Integer.bitCount(object) == node.number;
                default:
                    return false;
            }
        }
    }

    /** Accepts a text on trial, in a context of its own. */
    private static final class Acceptance {
        private final Meaning meaning;
        private final Assignments context = new Assignments();
        private final Assignments supporting = new Assignments();
        private long accommodatedParts;
        private int failingPlace;

        Acceptance(Meaning meaning) {
            this.meaning = meaning;
        }

        boolean succeeds(Node discourse, State state) {
            int number = 0;
            context.copyFrom(state.context);
            accommodatedParts = 0L;
            failingPlace = NONE;
            for (Node part = discourse.first; part != null; part = part.next) {
                boolean supported = true;
                if (part.kind == PRESUPPOSITION) {
                    meaning.findSupporting(part, supporting);
                    supported = context.isWithin(supporting);
                }
                meaning.turn(part, context, false);
                if (!supported && (!state.accommodating || context.isEmpty())) {
                    failingPlace = part.place;
                    return false;
                }
                accommodatedParts |= supported ? 0L : 1L << number;
                number++;
            }
            return true;
        }
    }
}
