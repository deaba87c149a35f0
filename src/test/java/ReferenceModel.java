import java.util.ArrayDeque;
import java.util.ArrayList;
import java.util.Deque;
import java.util.HashMap;
import java.util.LinkedHashSet;
import java.util.List;
import java.util.Map;
import java.util.Set;
import java.util.TreeSet;

/**
 * The document's words put into the plainest Java, to compare DiscourseContexts with. It takes
 * other ways on purpose: the syntax by an automaton with a stack, the texts cut at their signs,
 * the meaning assignment by assignment. Assignments are strings of three digits, 0 for unknown.
 */
final class ReferenceModel {
    private static final String FIRST = "000";

    private static final class State {
        int individuals = 2;
        int[] sets = new int[3];
        Set<String> pairs = new TreeSet<>();
        Set<String> context = new LinkedHashSet<>(List.of(FIRST));
        int known = 0;
        boolean accommodation = false;
        List<Integer> accommodated = List.of();

        State copy() {
            State copy = new State();
            copy.individuals = individuals;
            copy.sets = sets.clone();
            copy.pairs = new TreeSet<>(pairs);
            copy.context = new LinkedHashSet<>(context);
            copy.known = known;
            copy.accommodation = accommodation;
            copy.accommodated = accommodated;
            return copy;
        }
    }

    /** A stretch of the text. */
    private record Span(int from, int to) {
    }

    private State state = new State();
    private final Deque<State> history = new ArrayDeque<>();
    private String text = "";
    private final Map<String, Set<String>> memo = new HashMap<>();

    private int unknownAt;
    private int unknownScopes;
    private int failing;
    private Set<String> trial;
    private List<Integer> trialAccommodated;
    private int trialKnown;

    // ---- the calls

    int setIndividuals(int individuals) {
        if (individuals < 1 || individuals > 3) return -1;
        record();
        int previous = state.individuals;
        state.individuals = individuals;
        state.sets = new int[3];
        state.pairs = new TreeSet<>();
        firstContext();
        return previous;
    }

    int setPredicate(int predicate, int set) {
        if (predicate < 0 || predicate > 2 || set < 0 || set >= 1 << state.individuals) return -1;
        record();
        int previous = state.sets[predicate];
        state.sets[predicate] = set;
        return previous;
    }

    int setPair(int relation, int from, int to, int holds) {
        if (relation < 0 || relation > 1) return -1;
        if (from < 0 || from >= state.individuals || to < 0 || to >= state.individuals) return -1;
        if (holds != 0 && holds != 1) return -1;
        record();
        String pair = relation + ":" + from + ":" + to;
        int previous = state.pairs.contains(pair) ? 1 : 0;
        if (holds == 1) state.pairs.add(pair);
        else state.pairs.remove(pair);
        return previous;
    }

    int individuals() {
        return state.individuals;
    }

    int predicate(int predicate) {
        return predicate < 0 || predicate > 2 ? -1 : state.sets[predicate];
    }

    int relationHolds(int relation, int one, int other) {
        if (relation < 0 || relation > 1 || !isObject(one) || !isObject(other)) return -1;
        return related(relation, one, other) ? 1 : 0;
    }

    int type(int character) {
        if (character < 32 || character > 126) return -1;
        if (text.length() == 60) return -5;
        text += (char) character;
        return text.length();
    }

    int clearText() {
        int length = text.length();
        text = "";
        return length;
    }

    int syntaxFault() {
        return faultOf(text);
    }

    int unknownVariable() {
        if (faultOf(text) != -7) return -2;
        look(state.known);
        return unknownAt;
    }

    int unknownDepth() {
        if (faultOf(text) != -7) return -2;
        look(state.known);
        return unknownAt == -7 ? -7 : unknownScopes;
    }

    int partCount() {
        return faultOf(text) != -7 ? -2 : parts().size();
    }

    int contextSize() {
        return state.context.size();
    }

    int known() {
        return state.known;
    }

    int objects(int variable) {
        if (variable < 0 || variable > 2) return -1;
        if ((state.known >> variable & 1) == 0) return -7;
        int objects = 0;
        for (String assignment : state.context) objects |= 1 << assignment.charAt(variable) - '0';
        return objects;
    }

    int together(int variable, int object, int other, int otherObject) {
        if (variable < 0 || variable > 2 || !isObject(object)) return -1;
        if (other < 0 || other > 2 || !isObject(otherObject)) return -1;
        if ((state.known >> variable & 1) == 0 || (state.known >> other & 1) == 0) return -7;
        int count = 0;
        for (String assignment : state.context) {
            if (assignment.charAt(variable) - '0' == object && assignment.charAt(other) - '0' == otherObject) count++;
        }
        return count;
    }

    int resetContext() {
        record();
        int size = state.context.size();
        firstContext();
        return size;
    }

    int setAccommodation(int on) {
        if (on != 0 && on != 1) return -1;
        record();
        int previous = state.accommodation ? 1 : 0;
        state.accommodation = on == 1;
        return previous;
    }

    int accept() {
        int size = acceptable();
        if (size < 0) return size;
        record();
        state.context = trial;
        state.known = trialKnown;
        state.accommodated = trialAccommodated;
        return size;
    }

    int acceptable() {
        if (faultOf(text) != -7) return -2;
        look(state.known);
        if (unknownAt != -7) return -3;
        tryParts();
        return failing != -7 ? -4 : trial.size();
    }

    int failingAt() {
        int size = acceptable();
        return size == -2 || size == -3 ? size : failing;
    }

    int accommodated() {
        return state.accommodated.size();
    }

    int accommodatedPart(int index) {
        if (index < 0) return -1;
        return index < state.accommodated.size() ? state.accommodated.get(index) : -7;
    }

    int sizeBehind(int count) {
        if (count < 0) return -1;
        if (faultOf(text) != -7) return -2;
        look(state.known);
        if (unknownAt != -7) return -3;
        List<Span> parts = parts();
        if (count > parts.size()) return -7;
        memo.clear();
        Set<String> context = state.context;
        for (int i = 0; i < count; i++) context = allResults(bare(parts.get(i)), context);
        return context.size();
    }

    int supports() {
        if (faultOf(text) != -7) return -2;
        look(state.known);
        if (unknownAt != -7) return -3;
        memo.clear();
        for (String assignment : state.context) {
            Set<String> context = Set.of(assignment);
            for (Span part : parts()) context = allResults(bare(part), context);
            if (context.isEmpty()) return 0;
        }
        return 1;
    }

    int worldsTrue() {
        if (faultOf(text) != -7) return -2;
        look(0);
        if (unknownAt != -7) return -3;
        int[] kept = state.sets;
        int count = 0;
        for (int p = 0; p < 1 << state.individuals; p++) {
            for (int q = 0; q < 1 << state.individuals; q++) {
                state.sets = new int[] {p, q, kept[2]};
                memo.clear();
                Set<String> context = Set.of(FIRST);
                for (Span part : parts()) context = allResults(bare(part), context);
                if (!context.isEmpty()) count++;
            }
        }
        state.sets = kept;
        return count;
    }

    int historySize() {
        return history.size();
    }

    int undo() {
        if (history.isEmpty()) return -6;
        state = history.removeLast();
        return history.size();
    }

    // ---- state

    private void record() {
        history.addLast(state.copy());
        if (history.size() > 5) history.removeFirst();
    }

    private void firstContext() {
        state.context = new LinkedHashSet<>(List.of(FIRST));
        state.known = 0;
    }

    private boolean isObject(int object) {
        return object >= 1 && object < 1 << state.individuals;
    }

    private boolean related(int relation, int one, int other) {
        return eachHasPartner(relation, one, other, false) && eachHasPartner(relation, other, one, true);
    }

    private boolean eachHasPartner(int relation, int one, int other, boolean turned) {
        for (int i = 0; i < 3; i++) {
            if ((one >> i & 1) == 0) continue;
            boolean found = false;
            for (int j = 0; j < 3; j++) {
                String pair = relation + ":" + (turned ? j + ":" + i : i + ":" + j);
                found |= (other >> j & 1) == 1 && state.pairs.contains(pair);
            }
            if (!found) return false;
        }
        return true;
    }

    // ---- syntax: an automaton with a stack of the signs "[", "(", "!" and ">"

    private static int faultOf(String text) {
        Deque<Character> stack = new ArrayDeque<>();
        String due = "";
        boolean unitDue = true;
        boolean partStarts = true;
        boolean bracketClosed = false;
        for (int i = 0; i < text.length(); i++) {
            char c = text.charAt(i);
            int open = stack.size() - (stack.contains('[') ? 1 : 0);
            if (!due.isEmpty()) {
                if (signsFor(due.charAt(0)).indexOf(c) < 0) return i;
                due = due.substring(1);
                if (due.isEmpty()) closeNegations(stack);
            } else if (bracketClosed) {
                if (c != ';') return i;
                bracketClosed = false;
                unitDue = true;
                partStarts = true;
            } else if (unitDue) {
                if (c == '[') {
                    if (!partStarts) return i;
                    stack.push(c);
                } else if (c == '!' || c == '(') {
                    if (open == 8) return i;
                    stack.push(c);
                } else {
                    due = behindFirst(c);
                    if (due.isEmpty()) return i;
                    unitDue = false;
                }
                partStarts = false;
            } else if (c == '&' || c == '|') {
                unitDue = true;
            } else if (c == '>') {
                if (open == 8) return i;
                stack.push(c);
                unitDue = true;
            } else {
                while (!stack.isEmpty() && stack.peek() == '>') stack.pop();
                if (c == ';') {
                    if (!stack.isEmpty()) return i;
                    unitDue = true;
                    partStarts = true;
                } else {
                    char opener = c == ')' ? '(' : c == ']' ? '[' : ' ';
                    if (stack.isEmpty() || stack.pop() != opener) return i;
                    if (c == ')') closeNegations(stack);
                    else bracketClosed = true;
                }
            }
        }
        while (!stack.isEmpty() && stack.peek() == '>') stack.pop();
        return due.isEmpty() && !unitDue && stack.isEmpty() ? -7 : text.length();
    }

    private static String signsFor(char due) {
        return due == 'v' ? "xyz" : due == 'k' ? "123" : "=<";
    }

    /** What is due behind the first character of a unit that is no "!" and no "(". */
    private static String behindFirst(char c) {
        if ("Epqr".indexOf(c) >= 0) return "v";
        if ("st".indexOf(c) >= 0) return "vv";
        if ("xyz".indexOf(c) >= 0) return "sv";
        return c == '#' ? "kv" : "";
    }

    private static void closeNegations(Deque<Character> stack) {
        while (!stack.isEmpty() && stack.peek() == '!') stack.pop();
    }

    // ---- cutting a text that has no fault

    private List<Span> cut(Span span, char sign) {
        List<Span> pieces = new ArrayList<>();
        int depth = 0;
        int start = span.from;
        for (int i = span.from; i < span.to; i++) {
            char c = text.charAt(i);
            if (c == '(') depth++;
            if (c == ')') depth--;
            if (c == sign && depth == 0) {
                pieces.add(new Span(start, i));
                start = i + 1;
            }
        }
        pieces.add(new Span(start, span.to));
        return pieces;
    }

    private List<Span> parts() {
        return cut(new Span(0, text.length()), ';');
    }

    private Span bare(Span part) {
        return isPresupposition(part) ? new Span(part.from + 1, part.to - 1) : part;
    }

    private boolean isPresupposition(Span part) {
        return text.charAt(part.from) == '[';
    }

    /** The choice ahead of the first ">", and the formula behind it; or the formula alone. */
    private List<Span> condition(Span formula) {
        List<Span> pieces = cut(formula, '>');
        if (pieces.size() == 1) return pieces;
        return List.of(pieces.get(0), new Span(pieces.get(1).from, formula.to));
    }

    private Span inside(Span unit) {
        return new Span(unit.from + 1, text.charAt(unit.from) == '(' ? unit.to - 1 : unit.to);
    }

    // ---- what is known

    private void look(int known) {
        unknownAt = -7;
        trialKnown = known;
        for (Span part : parts()) trialKnown = lookFormula(bare(part), trialKnown, 0);
    }

    private int lookFormula(Span formula, int known, int scopes) {
        List<Span> pieces = condition(formula);
        if (pieces.size() == 1) return lookChoice(formula, known, scopes);
        int between = lookChoice(pieces.get(0), known, scopes + 1);
        lookFormula(pieces.get(1), between, scopes + 1);
        return known;
    }

    private int lookChoice(Span choice, int known, int scopes) {
        List<Span> rows = cut(choice, '|');
        if (rows.size() == 1) return lookRow(choice, known, scopes);
        for (Span row : rows) lookRow(row, known, scopes + 1);
        return known;
    }

    private int lookRow(Span row, int known, int scopes) {
        for (Span unit : cut(row, '&')) known = lookUnit(unit, known, scopes);
        return known;
    }

    private int lookUnit(Span unit, int known, int scopes) {
        char c = text.charAt(unit.from);
        if (c == '(') return lookFormula(inside(unit), known, scopes);
        if (c == '!') {
            lookUnit(inside(unit), known, scopes + 1);
            return known;
        }
        if (c == 'E') return known | 1 << text.charAt(unit.from + 1) - 'x';
        for (int i = unit.from; i < unit.to; i++) {
            int variable = text.charAt(i) - 'x';
            if (variable >= 0 && variable <= 2 && (known >> variable & 1) == 0 && unknownAt == -7) {
                unknownAt = i;
                unknownScopes = scopes;
            }
        }
        return known;
    }

    // ---- meaning

    private Set<String> allResults(Span formula, Set<String> context) {
        Set<String> results = new LinkedHashSet<>();
        for (String assignment : context) results.addAll(formulaResults(formula, assignment));
        return results;
    }

    private Set<String> formulaResults(Span formula, String assignment) {
        String key = formula.from + "-" + formula.to + ":" + assignment;
        Set<String> results = memo.get(key);
        if (results == null) {
            results = freshResults(formula, assignment);
            memo.put(key, results);
        }
        return results;
    }

    private Set<String> freshResults(Span formula, String assignment) {
        List<Span> pieces = condition(formula);
        if (pieces.size() == 1) return choiceResults(formula, assignment);
        for (String between : choiceResults(pieces.get(0), assignment)) {
            if (formulaResults(pieces.get(1), between).isEmpty()) return Set.of();
        }
        return Set.of(assignment);
    }

    private Set<String> choiceResults(Span choice, String assignment) {
        List<Span> rows = cut(choice, '|');
        if (rows.size() == 1) return rowResults(choice, assignment);
        for (Span row : rows) {
            if (!rowResults(row, assignment).isEmpty()) return Set.of(assignment);
        }
        return Set.of();
    }

    private Set<String> rowResults(Span row, String assignment) {
        Set<String> results = Set.of(assignment);
        for (Span unit : cut(row, '&')) {
            Set<String> next = new LinkedHashSet<>();
            for (String result : results) next.addAll(unitResults(unit, result));
            results = next;
        }
        return results;
    }

    private Set<String> unitResults(Span unit, String assignment) {
        char c = text.charAt(unit.from);
        if (c == '(') return formulaResults(inside(unit), assignment);
        if (c == '!') return unitResults(inside(unit), assignment).isEmpty() ? Set.of(assignment) : Set.of();
        if (c == 'E') {
            Set<String> results = new LinkedHashSet<>();
            for (int object = 1; object < 1 << state.individuals; object++) {
                StringBuilder changed = new StringBuilder(assignment);
                changed.setCharAt(text.charAt(unit.from + 1) - 'x', (char) ('0' + object));
                results.add(changed.toString());
            }
            return results;
        }
        return simpleHolds(text.substring(unit.from, unit.to), assignment) ? Set.of(assignment) : Set.of();
    }

    private boolean simpleHolds(String unit, String assignment) {
        int last = assignment.charAt(unit.charAt(unit.length() - 1) - 'x') - '0';
        char c = unit.charAt(0);
        if (c >= 'p' && c <= 'r') return (last | state.sets[c - 'p']) == state.sets[c - 'p'];
        if (c == '#') return Integer.bitCount(last) == unit.charAt(1) - '0';
        if (c == 's' || c == 't') return related(c - 's', assignment.charAt(unit.charAt(1) - 'x') - '0', last);
        int first = assignment.charAt(c - 'x') - '0';
        return unit.charAt(1) == '=' ? first == last : (first | last) == last;
    }

    // ---- accepting

    private void tryParts() {
        memo.clear();
        trial = state.context;
        trialAccommodated = new ArrayList<>();
        failing = -7;
        List<Span> parts = parts();
        for (int i = 0; i < parts.size(); i++) {
            Span part = parts.get(i);
            Set<String> results = allResults(bare(part), trial);
            if (isPresupposition(part)) {
                boolean supported = true;
                for (String assignment : trial) supported &= !formulaResults(bare(part), assignment).isEmpty();
                if (!supported) {
                    if (!state.accommodation || results.isEmpty()) {
                        failing = part.from;
                        return;
                    }
                    trialAccommodated.add(i);
                }
            }
            trial = results;
        }
    }
}
