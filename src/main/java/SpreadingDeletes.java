import java.util.Arrays;

/**
 * A small store of tables whose rows refer to rows of other tables by keys, with deletions that
 * spread along the references. The numbered promises that it keeps stand in DOC.md.
 */
public final class SpreadingDeletes {
    public static final int UNKNOWN = -2;
    public static final int OUT_OF_RANGE = -3;
    public static final int FULL = -4;
    public static final int DUPLICATE = -5;
    public static final int REQUIRED = -6;
    public static final int NO_PARENT = -7;
    public static final int NOT_POSSIBLE = -8;
    public static final int NONE = -9;

    private static final int MOST_TABLES = 6;
    private static final int MOST_ROWS = 20;
    private static final int MOST_REFERENCES = 12;
    private static final int MOST_COLUMNS = 2;
    private static final int MOST_STATES = 4;
    private static final int MOST_CHARACTERS = 60;
    private static final int KEYS = 100;
    private static final int ALL_ROWS = MOST_TABLES * MOST_ROWS;

    private static final int RESTRICT = 0;
    private static final int NO_ACTION = 1;
    private static final int CASCADE = 2;
    private static final int SET_NULL = 3;
    private static final int SET_DEFAULT = 4;

    // What a reference has, by the numbers that reference() takes.
    private static final int CHILD = 0;
    private static final int PARENT = 1;
    private static final int COLUMN = 2;
    private static final int RULE = 3;
    private static final int MUST_HAVE = 4;
    private static final int STANDARD = 5;
    private static final int FACTS = 6;

    private static final int NULL = -1;
    private static final int ABSENT = -1;
    private static final int FINE = 0;
    private static final int FAULT_BASE = -100;

    private final State now = new State();
    private final State before = new State();
    private final State snapshot = new State();
    private boolean snapshotTaken = false;
    private final History history = new History();
    private final Script script = new Script();
    private final Deletion deletion = new Deletion();
    private final Climb climb = new Climb();

    public SpreadingDeletes() {
    }

    // ---- tables, references

    public int addTable() {
        if (now.tables >= MOST_TABLES) {
            return FULL;
        }
        history.remember(now);
        return now.appendTable();
    }

    public int addReference(int child, int parent, int rule, boolean required, int standard) {
        if (!now.hasTable(child) || !now.hasTable(parent)) {
            return UNKNOWN;
        }
        if (!isRule(rule) || !isValue(standard)) {
            return OUT_OF_RANGE;
        }
        if (now.references >= MOST_REFERENCES || now.columnCounts[child] >= MOST_COLUMNS) {
            return FULL;
        }
        if (now.rowCounts[child] > 0) {
            return NOT_POSSIBLE;
        }
        history.remember(now);
        return now.appendReference(child, parent, rule, required, standard);
    }

    public int setRule(int reference, int rule) {
        if (!now.hasReference(reference)) {
            return UNKNOWN;
        }
        if (!isRule(rule)) {
            return OUT_OF_RANGE;
        }
        int previous = now.fact(reference, RULE);
        if (previous == rule) {
            return NONE;
        }
        history.remember(now);
        now.facts[reference * FACTS + RULE] = rule;
        return previous;
    }

    // ---- rows

    public int insert(int table, int key, int first, int second) {
        int error = now.checkInsert(table, key, first, second);
        if (error != FINE) {
            return error;
        }
        history.remember(now);
        return now.addRow(table, key, first, second);
    }

    public int update(int table, int key, int column, int value) {
        int error = now.checkUpdate(table, key, column, value);
        if (error != FINE) {
            return error;
        }
        history.remember(now);
        return now.changeValue(table, key, column, value);
    }

    public int delete(int table, int key) {
        int error = deletion.plan(now, table, key);
        if (error != FINE) {
            return error;
        }
        history.remember(now);
        return deletion.carryOut(now);
    }

    // ---- statements

    public int type(char character) {
        return script.append(character);
    }

    public int clearText() {
        int previous = script.length;
        script.length = 0;
        return previous;
    }

    public int perform() {
        int count = script.survey();
        if (count < 0) {
            return count;
        }
        before.copyFrom(now);
        script.rewind();
        for (int index = 0; index < count; index++) {
            script.readStatement();
            script.take(';');
            int error = performStatement();
            if (error != FINE && error != NONE) {
                now.copyFrom(before);
                return error;
            }
        }
        history.remember(before);
        return count;
    }

    // ---- history

    public int undo() {
        return history.bringBack(now);
    }

    public int keep() {
        snapshot.copyFrom(now);
        snapshotTaken = true;
        return now.countRows();
    }

    public int restore() {
        if (!snapshotTaken) {
            return NONE;
        }
        history.remember(now);
        now.copyFrom(snapshot);
        return now.countRows();
    }

    // ---- what there is

    public int rows(int table) {
        return now.hasTable(table) ? now.rowCounts[table] : UNKNOWN;
    }

    public int keyAt(int table, int rank) {
        if (!now.hasTable(table)) {
            return UNKNOWN;
        }
        if (rank < 0) {
            return OUT_OF_RANGE;
        }
        return rank < now.rowCounts[table] ? now.keys[table * MOST_ROWS + rank] : NONE;
    }

    public int value(int table, int key, int column) {
        int slot = now.slotOf(table, key);
        if (slot == ABSENT || !now.hasColumn(table, column)) {
            return UNKNOWN;
        }
        return now.valueAt(slot, column);
    }

    public int children(int reference, int key) {
        if (!now.hasReference(reference) || !now.hasRow(now.fact(reference, PARENT), key)) {
            return UNKNOWN;
        }
        return now.countChildren(reference, key);
    }

    public int reference(int reference, int what) {
        if (!now.hasReference(reference)) {
            return UNKNOWN;
        }
        return what >= 0 && what < FACTS ? now.fact(reference, what) : OUT_OF_RANGE;
    }

    public int deleted(int index) {
        if (index < 0) {
            return OUT_OF_RANGE;
        }
        return index < now.latestCount ? now.latest[index] : NONE;
    }

    public int total(int what) {
        switch (what) {
            case 0:
                return now.tables;
            case 1:
                return now.references;
            case 2:
                return now.countRows();
            case 3:
                return now.countNulls();
            case 4:
                return now.insertedSoFar;
            case 5:
                return now.deletedSoFar;
            case 6:
                return now.changedSoFar;
            case 7:
                return history.count;
            case 8:
                return script.length;
            default:
                return OUT_OF_RANGE;
        }
    }

    // ---- what would be; nothing changes

    public int gathered(int table, int key, int index) {
        if (deletion.plan(now, table, key) == UNKNOWN) {
            return UNKNOWN;
        }
        if (index < 0) {
            return OUT_OF_RANGE;
        }
        return index < deletion.count ? deletion.order[index] : NONE;
    }

    public int reason(int table, int key) {
        return deletion.plan(now, table, key) == UNKNOWN ? UNKNOWN : deletion.refusal;
    }

    public int blocking(int table, int key) {
        return deletion.plan(now, table, key) == UNKNOWN ? UNKNOWN : deletion.blocker;
    }

    public int wouldChange(int table, int key) {
        int error = deletion.plan(now, table, key);
        return error == FINE ? deletion.changes : error;
    }

    public int isInRing(int table, int key) {
        if (!now.hasRow(table, key)) {
            return UNKNOWN;
        }
        return climb.leadsBack(now, rowNumber(table, key)) ? 1 : 0;
    }

    public int deletable(int table) {
        if (!now.hasTable(table)) {
            return UNKNOWN;
        }
        int found = 0;
        for (int rank = 0; rank < now.rowCounts[table]; rank++) {
            int error = deletion.plan(now, table, now.keys[table * MOST_ROWS + rank]);
            if (error == FINE && deletion.count == 1) {
                found++;
            }
        }
        return found;
    }

    /** Carries out the statement that was read last, and tells FINE, NONE or its error. */
    private int performStatement() {
        int error;
        switch (script.kind) {
            case '+':
                error = now.checkInsert(script.table, script.key, script.first, script.second);
                if (error == FINE) {
                    now.addRow(script.table, script.key, script.first, script.second);
                }
                return error;
            case '-':
                error = deletion.plan(now, script.table, script.key);
                if (error == FINE) {
                    deletion.carryOut(now);
                }
                return error;
            default:
                error = now.checkUpdate(script.table, script.key, script.column, script.first);
                if (error == FINE) {
                    now.changeValue(script.table, script.key, script.column, script.first);
                }
                return error;
        }
    }

    private static boolean isRule(int rule) {
        return rule >= RESTRICT && rule <= SET_DEFAULT;
    }

    private static boolean isKey(int key) {
        return key >= 0 && key < KEYS;
    }

    private static boolean isValue(int value) {
        return value == NULL || isKey(value);
    }

    /** One number for a row of any table, the one in which the answers name rows. */
    private static int rowNumber(int table, int key) {
        return table * KEYS + key;
    }

    /**
     * All that undo and the snapshot bring back. The rows of a table stand side by side by rising
     * keys, so that no walk over them has to sort; the place of a row is its slot.
     */
    private static final class State {
        int tables = 0;
        int references = 0;
        final int[] rowCounts = new int[MOST_TABLES];
        final int[] columnCounts = new int[MOST_TABLES];
        final int[] columnReferences = new int[MOST_TABLES * MOST_COLUMNS];
        final int[] facts = new int[MOST_REFERENCES * FACTS];
        final int[] keys = new int[ALL_ROWS];
        final int[] values = new int[ALL_ROWS * MOST_COLUMNS];
        final int[] latest = new int[ALL_ROWS];
        int latestCount = 0;
        int insertedSoFar = 0;
        int deletedSoFar = 0;
        int changedSoFar = 0;

        State() {
        }

        void copyFrom(State other) {
            tables = other.tables;
            references = other.references;
            System.arraycopy(other.rowCounts, 0, rowCounts, 0, rowCounts.length);
            System.arraycopy(other.columnCounts, 0, columnCounts, 0, columnCounts.length);
            System.arraycopy(other.columnReferences, 0, columnReferences, 0, columnReferences.length);
            System.arraycopy(other.facts, 0, facts, 0, facts.length);
            System.arraycopy(other.keys, 0, keys, 0, keys.length);
            System.arraycopy(other.values, 0, values, 0, values.length);
            System.arraycopy(other.latest, 0, latest, 0, latest.length);
            latestCount = other.latestCount;
            insertedSoFar = other.insertedSoFar;
            deletedSoFar = other.deletedSoFar;
            changedSoFar = other.changedSoFar;
        }

        boolean hasTable(int table) {
            return table >= 0 && table < tables;
        }

        boolean hasReference(int reference) {
            return reference >= 0 && reference < references;
        }

        boolean hasColumn(int table, int column) {
            return hasTable(table) && column >= 0 && column < columnCounts[table];
        }

        boolean hasRow(int table, int key) {
            return slotOf(table, key) != ABSENT;
        }

        /** The place of a row, or ABSENT, also if there is no such table. */
        int slotOf(int table, int key) {
            if (!hasTable(table)) {
                return ABSENT;
            }
            int start = table * MOST_ROWS;
            int end = start + rowCounts[table];
            for (int slot = start; slot < end; slot++) {
                if (keys[slot] == key) {
                    return slot;
                }
            }
            return ABSENT;
        }

        int valueAt(int slot, int column) {
            return values[slot * MOST_COLUMNS + column];
        }

        int fact(int reference, int what) {
            return facts[reference * FACTS + what];
        }

        int referenceOf(int table, int column) {
            return columnReferences[table * MOST_COLUMNS + column];
        }

        /** A row of the child table of a reference, told by its rank there, or ABSENT. */
        int childAt(int reference, int rank) {
            int child = fact(reference, CHILD);
            return rank < rowCounts[child] ? rowNumber(child, keys[child * MOST_ROWS + rank]) : ABSENT;
        }

        /** The parent of such a row by the reference, or ABSENT. */
        int parentAt(int reference, int rank) {
            int child = fact(reference, CHILD);
            if (rank >= rowCounts[child]) {
                return ABSENT;
            }
            int value = valueAt(child * MOST_ROWS + rank, fact(reference, COLUMN));
            return value == NULL ? ABSENT : rowNumber(fact(reference, PARENT), value);
        }

        int countRows() {
            int count = 0;
            for (int table = 0; table < tables; table++) {
                count += rowCounts[table];
            }
            return count;
        }

        int countNulls() {
            int count = 0;
            for (int reference = 0; reference < references; reference++) {
                count += countChildren(reference, NULL);
            }
            return count;
        }

        /** How many rows of the child table have this value, a key or null, by a reference. */
        int countChildren(int reference, int value) {
            int count = 0;
            int column = fact(reference, COLUMN);
            int start = fact(reference, CHILD) * MOST_ROWS;
            int end = start + rowCounts[fact(reference, CHILD)];
            for (int slot = start; slot < end; slot++) {
                if (valueAt(slot, column) == value) {
                    count++;
                }
            }
            return count;
        }

        int appendTable() {
            tables++;
            return tables - 1;
        }

        int appendReference(int child, int parent, int rule, boolean required, int standard) {
            int column = columnCounts[child];
            int start = references * FACTS;
            facts[start + CHILD] = child;
            facts[start + PARENT] = parent;
            facts[start + COLUMN] = column;
            facts[start + RULE] = rule;
            facts[start + MUST_HAVE] = required ? 1 : 0;
            facts[start + STANDARD] = standard;
            columnReferences[child * MOST_COLUMNS + column] = references;
            columnCounts[child]++;
            references++;
            return references - 1;
        }

        int checkInsert(int table, int key, int first, int second) {
            if (!hasTable(table)) {
                return UNKNOWN;
            }
            if (!isKey(key) || !fits(table, 0, first) || !fits(table, 1, second)) {
                return OUT_OF_RANGE;
            }
            if (hasRow(table, key)) {
                return DUPLICATE;
            }
            if (rowCounts[table] >= MOST_ROWS) {
                return FULL;
            }
            if (isMissing(table, 0, first) || isMissing(table, 1, second)) {
                return REQUIRED;
            }
            if (hasNoParent(table, key, 0, first) || hasNoParent(table, key, 1, second)) {
                return NO_PARENT;
            }
            return FINE;
        }

        int checkUpdate(int table, int key, int column, int value) {
            int slot = slotOf(table, key);
            if (slot == ABSENT || !hasColumn(table, column)) {
                return UNKNOWN;
            }
            if (!isValue(value)) {
                return OUT_OF_RANGE;
            }
            if (isMissing(table, column, value)) {
                return REQUIRED;
            }
            if (hasNoParent(table, key, column, value)) {
                return NO_PARENT;
            }
            return valueAt(slot, column) == value ? NONE : FINE;
        }

        /** A column that there is not takes null alone. */
        private boolean fits(int table, int column, int value) {
            return value == NULL || (hasColumn(table, column) && isKey(value));
        }

        private boolean isMissing(int table, int column, int value) {
            return value == NULL && hasColumn(table, column)
                    && fact(referenceOf(table, column), MUST_HAVE) == 1;
        }

        /** The row itself may be its parent, also while it is not yet in its table. */
        private boolean hasNoParent(int table, int key, int column, int value) {
            if (value == NULL || !hasColumn(table, column)) {
                return false;
            }
            int parent = fact(referenceOf(table, column), PARENT);
            boolean isItself = parent == table && value == key;
            return !isItself && !hasRow(parent, value);
        }

        /** Only for a row that checkInsert finds fine. */
        int addRow(int table, int key, int first, int second) {
            int start = table * MOST_ROWS;
            int slot = start + rowCounts[table];
            while (slot > start && keys[slot - 1] > key) {
                moveRow(slot - 1, slot);
                slot--;
            }
            keys[slot] = key;
            values[slot * MOST_COLUMNS] = first;
            values[slot * MOST_COLUMNS + 1] = second;
            rowCounts[table]++;
            insertedSoFar++;
            return rowCounts[table];
        }

        /** Only for a value that checkUpdate finds fine; tells the previous one. */
        int changeValue(int table, int key, int column, int value) {
            int slot = slotOf(table, key);
            if (slot == ABSENT) {
                return UNKNOWN;
            }
            int previous = valueAt(slot, column);
            values[slot * MOST_COLUMNS + column] = value;
            return previous;
        }

        void removeRow(int row) {
            int table = row / KEYS;
            int slot = slotOf(table, row % KEYS);
            if (slot == ABSENT) {
                return;
            }
            int last = table * MOST_ROWS + rowCounts[table] - 1;
            for (int to = slot; to < last; to++) {
                moveRow(to + 1, to);
            }
            rowCounts[table]--;
        }

        private void moveRow(int from, int to) {
            keys[to] = keys[from];
            for (int column = 0; column < MOST_COLUMNS; column++) {
                values[to * MOST_COLUMNS + column] = valueAt(from, column);
            }
        }
    }

    /** The states ahead of the latest changes, the oldest one first. */
    private static final class History {
        final State[] states = new State[MOST_STATES];
        int count = 0;

        History() {
            for (int index = 0; index < MOST_STATES; index++) {
                states[index] = new State();
            }
        }

        void remember(State state) {
            if (count >= MOST_STATES) {
                dropOldest();
            }
            states[count].copyFrom(state);
            count++;
        }

        /** The dropped state goes behind the others, where it is written over. */
        private void dropOldest() {
            State oldest = states[0];
            for (int index = 1; index < MOST_STATES; index++) {
                states[index - 1] = states[index];
            }
            states[MOST_STATES - 1] = oldest;
            count--;
        }

        /** Tells how many states are left, or NONE if there was none to bring back. */
        int bringBack(State state) {
            if (count == 0) {
                return NONE;
            }
            count--;
            state.copyFrom(states[count]);
            return count;
        }
    }

    /** What the deletion of one row would do: the plan that was made last. */
    private static final class Deletion {
        final int[] order = new int[ALL_ROWS];
        int count = 0;
        int refusal = 0;
        int blocker = NONE;
        int changes = 0;

        // A row whose gathering has begun is marked; after gather() these are the gathered rows.
        private final int[] marks = new int[MOST_TABLES * KEYS];
        // The rows whose gathering is under way, each with the place where its children go on:
        // a stack of its own, since a chain of children can be as long as there are rows.
        private final int[] open = new int[ALL_ROWS];
        private final int[] places = new int[ALL_ROWS];
        private int depth = 0;

        Deletion() {
        }

        /** Tells UNKNOWN if there is no such row, NOT_POSSIBLE if its deletion is refused, or FINE. */
        int plan(State state, int table, int key) {
            if (state.slotOf(table, key) == ABSENT) {
                return UNKNOWN;
            }
            gather(state, rowNumber(table, key));
            judge(state);
            return refusal == 0 ? FINE : NOT_POSSIBLE;
        }

        private void gather(State state, int row) {
            Arrays.fill(marks, 0);
            count = 0;
            depth = 0;
            begin(row);
            // Each step begins or ends the gathering of a row.
            for (int step = 0; step < 2 * ALL_ROWS && depth > 0; step++) {
                int child = nextChild(state);
                if (child == ABSENT) {
                    end();
                } else {
                    begin(child);
                }
            }
        }

        /** No row is begun twice, so that the stack holds all of them. */
        private void begin(int row) {
            if (depth >= ALL_ROWS) {
                return;
            }
            marks[row] = 1;
            open[depth] = row;
            places[depth] = 0;
            depth++;
        }

        private void end() {
            depth--;
            order[count] = open[depth];
            count++;
        }

        /** The next child to gather of the row that was begun last, or ABSENT. */
        private int nextChild(State state) {
            int row = open[depth - 1];
            int end = state.references * MOST_ROWS;
            for (int place = places[depth - 1]; place < end; place++) {
                int reference = place / MOST_ROWS;
                int rank = place % MOST_ROWS;
                if (state.fact(reference, RULE) == CASCADE && state.parentAt(reference, rank) == row) {
                    int child = state.childAt(reference, rank);
                    if (!isMarked(child)) {
                        places[depth - 1] = place + 1;
                        return child;
                    }
                }
            }
            return ABSENT;
        }

        private void judge(State state) {
            refusal = 0;
            blocker = NONE;
            changes = 0;
            for (int reference = 0; reference < state.references; reference++) {
                for (int rank = 0; rank < MOST_ROWS; rank++) {
                    if (!losesParent(state, reference, rank)) {
                        continue;
                    }
                    int child = state.childAt(reference, rank);
                    refusal = refusalAt(state, reference, rank);
                    if (refusal != 0) {
                        blocker = child;
                        return;
                    }
                    if (!isMarked(child)) {
                        changes++;
                    }
                }
            }
        }

        private boolean losesParent(State state, int reference, int rank) {
            return isMarked(state.parentAt(reference, rank));
        }

        private boolean isMarked(int row) {
            return row != ABSENT && marks[row] != 0;
        }

        /** The reason that a row which loses its parent gives, or 0. */
        private int refusalAt(State state, int reference, int rank) {
            int child = state.childAt(reference, rank);
            int rule = state.fact(reference, RULE);
            if (rule == RESTRICT) {
                return state.parentAt(reference, rank) == child ? 0 : 1;
            }
            if (isMarked(child)) {
                return 0;
            }
            if (rule == NO_ACTION) {
                return 2;
            }
            int value = newValue(state, reference);
            if (value == NULL) {
                return state.fact(reference, MUST_HAVE) == 1 ? 3 : 0;
            }
            int parent = state.fact(reference, PARENT);
            boolean stays = state.slotOf(parent, value) != ABSENT && !isMarked(rowNumber(parent, value));
            return stays ? 0 : 4;
        }

        /** What a value becomes whose row stays while its parent goes. */
        private static int newValue(State state, int reference) {
            boolean takesDefault = state.fact(reference, RULE) == SET_DEFAULT;
            return takesDefault ? state.fact(reference, STANDARD) : NULL;
        }

        /** Only if the plan was just made for this state and nothing refuses it. */
        int carryOut(State state) {
            for (int reference = 0; reference < state.references; reference++) {
                changeValues(state, reference);
            }
            for (int index = 0; index < count; index++) {
                state.removeRow(order[index]);
            }
            System.arraycopy(order, 0, state.latest, 0, count);
            state.latestCount = count;
            state.deletedSoFar += count;
            state.changedSoFar += changes;
            return count;
        }

        private void changeValues(State state, int reference) {
            int column = state.fact(reference, COLUMN);
            int value = newValue(state, reference);
            for (int rank = 0; rank < MOST_ROWS; rank++) {
                if (losesParent(state, reference, rank)) {
                    int child = state.childAt(reference, rank);
                    if (!isMarked(child)) {
                        state.changeValue(child / KEYS, child % KEYS, column, value);
                    }
                }
            }
        }
    }

    /** The way from a row to its parents, to their parents, and so on. */
    private static final class Climb {
        private final int[] marks = new int[MOST_TABLES * KEYS];
        private final int[] reached = new int[ALL_ROWS];
        private int count = 0;

        Climb() {
        }

        /** Only for a row that there is. */
        boolean leadsBack(State state, int row) {
            Arrays.fill(marks, 0);
            count = 0;
            reachParents(state, row);
            // The reached rows grow meanwhile, each row once at the most.
            for (int index = 0; index < ALL_ROWS && index < count; index++) {
                reachParents(state, reached[index]);
            }
            return marks[row] != 0;
        }

        private void reachParents(State state, int row) {
            int table = row / KEYS;
            int slot = state.slotOf(table, row % KEYS);
            if (slot == ABSENT) {
                return;
            }
            for (int column = 0; column < state.columnCounts[table]; column++) {
                int value = state.valueAt(slot, column);
                if (value != NULL) {
                    int parent = state.fact(state.referenceOf(table, column), PARENT);
                    reach(rowNumber(parent, value));
                }
            }
        }

        private void reach(int row) {
            if (marks[row] == 0 && count < ALL_ROWS) {
                marks[row] = 1;
                reached[count] = row;
                count++;
            }
        }
    }

    /**
     * The text, and the reading of its statements. At each place the next character alone decides
     * how it goes on; so where reading stops, there is the fault.
     */
    private static final class Script {
        final char[] characters = new char[MOST_CHARACTERS];
        int length = 0;

        // The statement that was read last.
        int kind = 0;
        int table = 0;
        int key = 0;
        int column = 0;
        int first = NULL;
        int second = NULL;

        private int place = 0;
        private int number = 0;

        Script() {
        }

        int append(char character) {
            if (length >= MOST_CHARACTERS) {
                return FULL;
            }
            characters[length] = character;
            length++;
            return length;
        }

        void rewind() {
            place = 0;
        }

        /** How many statements the text has, or -100 minus its fault. */
        int survey() {
            rewind();
            for (int count = 1; count <= MOST_CHARACTERS; count++) {
                if (!readStatement()) {
                    return FAULT_BASE - place;
                }
                if (place == length) {
                    return count;
                }
                if (!take(';')) {
                    return FAULT_BASE - place;
                }
            }
            return FAULT_BASE - place;
        }

        /** Tells whether there is a statement; if not, the place stays at the fault. */
        boolean readStatement() {
            first = NULL;
            second = NULL;
            if (take('+')) {
                kind = '+';
                return readRow() && readInsertedValues();
            }
            if (take('-')) {
                kind = '-';
                return readRow();
            }
            if (take('@')) {
                kind = '@';
                return readRow() && readChange();
            }
            return false;
        }

        private boolean readRow() {
            if (!takeDigit('5')) {
                return false;
            }
            table = number;
            if (!take(':') || !readKey()) {
                return false;
            }
            key = number;
            return true;
        }

        private boolean readInsertedValues() {
            if (!take('=')) {
                return true;
            }
            if (!readValue()) {
                return false;
            }
            first = number;
            if (!take(',')) {
                return true;
            }
            if (!readValue()) {
                return false;
            }
            second = number;
            return true;
        }

        private boolean readChange() {
            if (!take('.') || !takeDigit('1')) {
                return false;
            }
            column = number;
            if (!take('=') || !readValue()) {
                return false;
            }
            first = number;
            return true;
        }

        private boolean readValue() {
            if (take('n')) {
                number = NULL;
                return true;
            }
            return readKey();
        }

        private boolean readKey() {
            if (!takeDigit('9')) {
                return false;
            }
            int tens = number;
            // No zero stands ahead of another digit: behind a zero the number is at its end.
            if (tens != 0) {
                number = takeDigit('9') ? tens * 10 + number : tens;
            }
            return true;
        }

        private boolean takeDigit(char most) {
            if (place >= length || characters[place] < '0' || characters[place] > most) {
                return false;
            }
            number = characters[place] - '0';
            place++;
            return true;
        }

        boolean take(char character) {
            if (place >= length || characters[place] != character) {
                return false;
            }
            place++;
            return true;
        }
    }
}
