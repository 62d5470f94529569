import java.util.ArrayDeque;
import java.util.ArrayList;
import java.util.Deque;
import java.util.List;
import java.util.TreeMap;
import java.util.regex.Matcher;
import java.util.regex.Pattern;

/**
 * The document once more, written as closely to its words as the Java library allows and without
 * a thought for speed, so that ModelTest can set the program's answers beside these.
 */
final class Model {
    private static final String KEY = "(0|[1-9][0-9]?)";
    private static final String VALUE = "(n|" + KEY + ")";
    private static final String STATEMENT = "(\\+[0-5]:" + KEY + "(=" + VALUE + "(," + VALUE + ")?)?"
            + "|-[0-5]:" + KEY + "|@[0-5]:" + KEY + "\\.[01]=" + VALUE + ")";
    private static final Pattern TEXT = Pattern.compile(STATEMENT + "(;" + STATEMENT + ")*", Pattern.DOTALL);

    private record Reference(int child, int parent, int column, int rule, int required, int standard) {
        int[] facts() {
            return new int[] {child, parent, column, rule, required, standard};
        }
    }

    private static final class State {
        final List<TreeMap<Integer, int[]>> tables = new ArrayList<>();
        final List<Reference> references = new ArrayList<>();
        List<Integer> latest = new ArrayList<>();
        int inserted;
        int deleted;
        int changed;

        State copy() {
            State other = new State();
            for (TreeMap<Integer, int[]> table : tables) {
                TreeMap<Integer, int[]> rows = new TreeMap<>();
                table.forEach((key, values) -> rows.put(key, values.clone()));
                other.tables.add(rows);
            }
            other.references.addAll(references);
            other.latest = new ArrayList<>(latest);
            other.inserted = inserted;
            other.deleted = deleted;
            other.changed = changed;
            return other;
        }
    }

    private State state = new State();
    private State snapshot = null;
    private final Deque<State> history = new ArrayDeque<>();
    private final StringBuilder text = new StringBuilder();

    private void record(State before) {
        history.addLast(before);
        if (history.size() > 4) {
            history.removeFirst();
        }
    }

    private boolean noTable(int table) {
        return table < 0 || table >= state.tables.size();
    }

    private boolean noReference(int reference) {
        return reference < 0 || reference >= state.references.size();
    }

    private boolean noRow(int table, int key) {
        return noTable(table) || !state.tables.get(table).containsKey(key);
    }

    private List<Reference> columns(int table) {
        return state.references.stream().filter(r -> r.child == table).toList();
    }

    private int rowCount() {
        return state.tables.stream().mapToInt(TreeMap::size).sum();
    }

    int addTable() {
        if (state.tables.size() == 6) {
            return -4;
        }
        record(state.copy());
        state.tables.add(new TreeMap<>());
        return state.tables.size() - 1;
    }

    int addReference(int child, int parent, int rule, boolean required, int standard) {
        if (noTable(child) || noTable(parent)) {
            return -2;
        }
        if (rule < 0 || rule > 4 || standard < -1 || standard > 99) {
            return -3;
        }
        if (state.references.size() == 12 || columns(child).size() == 2) {
            return -4;
        }
        if (!state.tables.get(child).isEmpty()) {
            return -8;
        }
        record(state.copy());
        int column = columns(child).size();
        state.references.add(new Reference(child, parent, column, rule, required ? 1 : 0, standard));
        return state.references.size() - 1;
    }

    int setRule(int reference, int rule) {
        if (noReference(reference)) {
            return -2;
        }
        if (rule < 0 || rule > 4) {
            return -3;
        }
        Reference old = state.references.get(reference);
        if (old.rule == rule) {
            return -9;
        }
        record(state.copy());
        state.references.set(reference,
                new Reference(old.child, old.parent, old.column, rule, old.required, old.standard));
        return old.rule;
    }

    int insert(int table, int key, int first, int second) {
        State before = state.copy();
        int answer = doInsert(table, key, first, second);
        if (answer >= 0) {
            record(before);
        }
        return answer;
    }

    private int doInsert(int table, int key, int first, int second) {
        if (noTable(table)) {
            return -2;
        }
        List<Reference> columns = columns(table);
        int[] values = {first, second};
        boolean outOfRange = key < 0 || key > 99;
        boolean required = false;
        boolean noParent = false;
        for (int column = 0; column < 2; column++) {
            int value = values[column];
            if (column >= columns.size()) {
                outOfRange |= value != -1;
                continue;
            }
            Reference reference = columns.get(column);
            outOfRange |= value < -1 || value > 99;
            required |= value == -1 && reference.required == 1;
            noParent |= value != -1 && noRow(reference.parent, value)
                    && !(reference.parent == table && value == key);
        }
        if (outOfRange) {
            return -3;
        }
        if (!noRow(table, key)) {
            return -5;
        }
        if (state.tables.get(table).size() == 20) {
            return -4;
        }
        if (required) {
            return -6;
        }
        if (noParent) {
            return -7;
        }
        state.tables.get(table).put(key, values);
        state.inserted++;
        return state.tables.get(table).size();
    }

    int update(int table, int key, int column, int value) {
        State before = state.copy();
        int answer = doUpdate(table, key, column, value);
        if (answer >= -1) {
            record(before);
        }
        return answer;
    }

    private int doUpdate(int table, int key, int column, int value) {
        if (noRow(table, key) || column < 0 || column >= columns(table).size()) {
            return -2;
        }
        if (value < -1 || value > 99) {
            return -3;
        }
        Reference reference = columns(table).get(column);
        if (value == -1 && reference.required == 1) {
            return -6;
        }
        if (value != -1 && noRow(reference.parent, value)) {
            return -7;
        }
        int[] values = state.tables.get(table).get(key);
        int previous = values[column];
        if (previous == value) {
            return -9;
        }
        values[column] = value;
        return previous;
    }

    int delete(int table, int key) {
        State before = state.copy();
        int answer = doDelete(table, key);
        if (answer >= 0) {
            record(before);
        }
        return answer;
    }

    private int doDelete(int table, int key) {
        if (noRow(table, key)) {
            return -2;
        }
        List<Integer> gathered = gather(table, key);
        State after = state.copy();
        Judgement judgement = judge(gathered, after);
        if (judgement.reason != 0) {
            return -8;
        }
        for (int row : gathered) {
            after.tables.get(row / 100).remove(row % 100);
        }
        after.latest = gathered;
        after.deleted += gathered.size();
        after.changed += judgement.changes;
        state = after;
        return gathered.size();
    }

    private List<Integer> gather(int table, int key) {
        List<Integer> gathered = new ArrayList<>();
        gather(table, key, new ArrayList<>(), gathered);
        return gathered;
    }

    private void gather(int table, int key, List<Integer> begun, List<Integer> gathered) {
        if (begun.contains(100 * table + key)) {
            return;
        }
        begun.add(100 * table + key);
        for (Reference reference : state.references) {
            if (reference.rule == 2 && reference.parent == table) {
                state.tables.get(reference.child).forEach((childKey, values) -> {
                    if (values[reference.column] == key) {
                        gather(reference.child, childKey, begun, gathered);
                    }
                });
            }
        }
        gathered.add(100 * table + key);
    }

    private record Judgement(int reason, int blocking, int changes) {
    }

    /** Judges a deletion of the present state, and changes the values in another one. */
    private Judgement judge(List<Integer> gathered, State after) {
        int changes = 0;
        for (Reference reference : state.references) {
            for (int key : state.tables.get(reference.child).keySet()) {
                int value = state.tables.get(reference.child).get(key)[reference.column];
                if (value == -1 || !gathered.contains(100 * reference.parent + value)) {
                    continue;
                }
                int row = 100 * reference.child + key;
                boolean ownParent = reference.child == reference.parent && value == key;
                if (reference.rule == 0 && !ownParent) {
                    return new Judgement(1, row, 0);
                }
                if (reference.rule == 0 || reference.rule == 2 || gathered.contains(row)) {
                    continue;
                }
                if (reference.rule == 1) {
                    return new Judgement(2, row, 0);
                }
                int next = reference.rule == 4 ? reference.standard : -1;
                if (next == -1 && reference.required == 1) {
                    return new Judgement(3, row, 0);
                }
                if (next != -1 && (noRow(reference.parent, next)
                        || gathered.contains(100 * reference.parent + next))) {
                    return new Judgement(4, row, 0);
                }
                after.tables.get(reference.child).get(key)[reference.column] = next;
                changes++;
            }
        }
        return new Judgement(0, -9, changes);
    }

    int type(char character) {
        if (text.length() == 60) {
            return -4;
        }
        text.append(character);
        return text.length();
    }

    int clearText() {
        int length = text.length();
        text.setLength(0);
        return length;
    }

    int perform() {
        if (!TEXT.matcher(text).matches()) {
            return -100 - fault();
        }
        State before = state.copy();
        String[] statements = text.toString().split(";");
        for (String statement : statements) {
            int answer = perform(statement);
            if (answer < -1 && answer != -9) {
                state = before;
                return answer;
            }
        }
        record(before);
        return statements.length;
    }

    private int fault() {
        for (int length = 1; length <= text.length(); length++) {
            Matcher matcher = TEXT.matcher(text.substring(0, length));
            if (!matcher.matches() && !matcher.hitEnd()) {
                return length - 1;
            }
        }
        return text.length();
    }

    private int perform(String statement) {
        String[] words = statement.substring(1).split("[:=,.]");
        int[] numbers = {0, 0, -1, -1};
        for (int index = 0; index < words.length; index++) {
            numbers[index] = words[index].equals("n") ? -1 : Integer.parseInt(words[index]);
        }
        return switch (statement.charAt(0)) {
            case '+' -> doInsert(numbers[0], numbers[1], numbers[2], numbers[3]);
            case '-' -> doDelete(numbers[0], numbers[1]);
            default -> doUpdate(numbers[0], numbers[1], numbers[2], numbers[3]);
        };
    }

    int undo() {
        if (history.isEmpty()) {
            return -9;
        }
        state = history.removeLast();
        return history.size();
    }

    int keep() {
        snapshot = state.copy();
        return rowCount();
    }

    int restore() {
        if (snapshot == null) {
            return -9;
        }
        record(state.copy());
        state = snapshot.copy();
        return rowCount();
    }

    int rows(int table) {
        return noTable(table) ? -2 : state.tables.get(table).size();
    }

    int keyAt(int table, int rank) {
        if (noTable(table)) {
            return -2;
        }
        if (rank < 0) {
            return -3;
        }
        List<Integer> keys = new ArrayList<>(state.tables.get(table).keySet());
        return rank < keys.size() ? keys.get(rank) : -9;
    }

    int value(int table, int key, int column) {
        if (noRow(table, key) || column < 0 || column >= columns(table).size()) {
            return -2;
        }
        return state.tables.get(table).get(key)[column];
    }

    int children(int reference, int key) {
        if (noReference(reference) || noRow(state.references.get(reference).parent, key)) {
            return -2;
        }
        Reference by = state.references.get(reference);
        return (int) state.tables.get(by.child).values().stream()
                .filter(values -> values[by.column] == key).count();
    }

    int reference(int reference, int what) {
        if (noReference(reference)) {
            return -2;
        }
        return what < 0 || what > 5 ? -3 : state.references.get(reference).facts()[what];
    }

    int deleted(int index) {
        if (index < 0) {
            return -3;
        }
        return index < state.latest.size() ? state.latest.get(index) : -9;
    }

    int total(int what) {
        return switch (what) {
            case 0 -> state.tables.size();
            case 1 -> state.references.size();
            case 2 -> rowCount();
            case 3 -> nulls();
            case 4 -> state.inserted;
            case 5 -> state.deleted;
            case 6 -> state.changed;
            case 7 -> history.size();
            case 8 -> text.length();
            default -> -3;
        };
    }

    private int nulls() {
        int count = 0;
        for (Reference reference : state.references) {
            for (int[] values : state.tables.get(reference.child).values()) {
                count += values[reference.column] == -1 ? 1 : 0;
            }
        }
        return count;
    }

    int gathered(int table, int key, int index) {
        if (noRow(table, key)) {
            return -2;
        }
        if (index < 0) {
            return -3;
        }
        List<Integer> gathered = gather(table, key);
        return index < gathered.size() ? gathered.get(index) : -9;
    }

    int reason(int table, int key) {
        return noRow(table, key) ? -2 : judge(gather(table, key), state.copy()).reason;
    }

    int blocking(int table, int key) {
        return noRow(table, key) ? -2 : judge(gather(table, key), state.copy()).blocking;
    }

    int wouldChange(int table, int key) {
        if (noRow(table, key)) {
            return -2;
        }
        Judgement judgement = judge(gather(table, key), state.copy());
        return judgement.reason != 0 ? -8 : judgement.changes;
    }

    int isInRing(int table, int key) {
        if (noRow(table, key)) {
            return -2;
        }
        List<Integer> reached = new ArrayList<>();
        climb(100 * table + key, reached);
        return reached.contains(100 * table + key) ? 1 : 0;
    }

    private void climb(int row, List<Integer> reached) {
        for (Reference reference : columns(row / 100)) {
            int value = state.tables.get(row / 100).get(row % 100)[reference.column];
            int parent = 100 * reference.parent + value;
            if (value != -1 && !reached.contains(parent)) {
                reached.add(parent);
                climb(parent, reached);
            }
        }
    }

    int deletable(int table) {
        if (noTable(table)) {
            return -2;
        }
        int count = 0;
        for (int key : state.tables.get(table).keySet()) {
            List<Integer> gathered = gather(table, key);
            count += gathered.size() == 1 && judge(gathered, state.copy()).reason == 0 ? 1 : 0;
        }
        return count;
    }
}
