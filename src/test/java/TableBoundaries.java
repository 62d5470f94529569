/** The boundary cases of tables and references: the terms, and the promises 1 to 4. */
final class TableBoundaries extends Boundaries {
    TableBoundaries(Check check) {
        super(check);
    }

    /** Six tables, of which each has two references: those of column 0 come first. */
    private Run twelveReferences() {
        Run run = tables(6);
        for (int number = 0; number < 12; number++) {
            int child = number % 6;
            run.make(x -> x.addReference(child, 5 - child, CASCADE, false, -1));
        }
        return run;
    }

    @Holds("What it is: An object is used for at most 512 calls after it has been made; what later calls answer is free")
    void theLastOf512Calls() {
        Run run = tables(1).text("+0:1;-0:1;+0:1;-0:1;+0:1;-0:1;+0:1;-0:1;+0:1;-0:1;+0:1;-0:1");
        for (int calls = 61; calls < 511; calls++) {
            run.make(SpreadingDeletes::perform);
        }
        run.copy().answers("inserted", 6 * 450, x -> x.total(4));
        run.copy().answers("deleted", 6 * 450, x -> x.total(5));
        run.copy().answers("a question", 1, x -> x.deleted(0));
        run.copy().answers("a change", 12, SpreadingDeletes::perform);
        run.copy().answers("a refused call", UNKNOWN, x -> x.delete(0, 1));
    }

    @Holds("Terms, tables and references: There are at most 6 tables, numbered from 0 in the order in which they are added")
    void tablesAreNumbered() {
        Run run = run();
        for (int table = 0; table < 6; table++) {
            int number = table;
            run.still("no table " + table, UNKNOWN, x -> x.rows(number));
            run.changes("table " + table, table, SpreadingDeletes::addTable);
            run.still("rows of table " + table, 0, x -> x.rows(number));
        }
        run.still("a seventh one", FULL, SpreadingDeletes::addTable);
        run.still("no table 6", UNKNOWN, x -> x.rows(6));
    }

    @Holds("Terms, tables and references: A table has rows, each with a key (0 to 99); no two rows of a table have the same key")
    void keysOfATable() {
        Run run = tables(2);
        run.still("no row", NONE, x -> x.keyAt(0, 0));
        run.still("below", OUT_OF_RANGE, x -> x.insert(0, -1, -1, -1));
        run.still("above", OUT_OF_RANGE, x -> x.insert(0, 100, -1, -1));
        run.changes("the greatest", 1, x -> x.insert(0, 99, -1, -1));
        run.changes("the least", 2, x -> x.insert(0, 0, -1, -1));
        run.still("the least again", DUPLICATE, x -> x.insert(0, 0, -1, -1));
        run.still("the greatest again", DUPLICATE, x -> x.insert(0, 99, -1, -1));
        run.changes("in another table", 1, x -> x.insert(1, 99, -1, -1));
        run.make(x -> x.delete(0, 99));
        run.changes("after its deletion", 2, x -> x.insert(0, 99, -1, -1));
    }

    @Holds("Terms, tables and references: A table has at most 20 rows")
    void rowsOfATable() {
        Run run = tables(6);
        for (int row = 0; row < 120; row++) {
            int table = row / 20;
            int key = 99 - row % 20;
            run.answers("row " + row, row % 20 + 1, x -> x.insert(table, key, -1, -1));
        }
        for (int number = 0; number < 6; number++) {
            int table = number;
            run.still("a row more of table " + table, FULL, x -> x.insert(table, 1, -1, -1));
            run.still("rows of table " + table, 20, x -> x.rows(table));
        }
        run.make(x -> x.delete(3, 90));
        run.still("no room elsewhere", FULL, x -> x.insert(2, 1, -1, -1));
        run.changes("room again", 20, x -> x.insert(3, 1, -1, -1));
        run.still("full again", FULL, x -> x.insert(3, 90, -1, -1));
    }

    @Holds("Terms, tables and references: A reference belongs to a child table and points to a parent table (perhaps the same one)")
    void childTableAndParentTable() {
        Run run = tables(2).changes("another table", 0, x -> x.addReference(0, 1, RESTRICT, false, -1));
        run.changes("the same table", 1, x -> x.addReference(1, 1, RESTRICT, false, -1));
        run.still("the child of 0", 0, x -> x.reference(0, 0));
        run.still("the parent of 0", 1, x -> x.reference(0, 1));
        run.still("the child of 1", 1, x -> x.reference(1, 0));
        run.still("the parent of 1", 1, x -> x.reference(1, 1));
        run.make(x -> x.insert(1, 9, 9, -1));
        run.changes("a row of another table is the parent", 1, x -> x.insert(0, 5, 9, -1));
        run.still("a row of the same table is not", NO_PARENT, x -> x.insert(0, 6, 5, -1));
        run.changes("a row of the same table is the parent", 2, x -> x.insert(1, 8, 9, -1));
    }

    @Holds("Terms, tables and references: References are numbered from 0 in the order in which they are added; there are at most 12")
    void referencesAreNumbered() {
        Run run = tables(6);
        for (int number = 0; number < 12; number++) {
            int reference = number;
            run.still("no reference " + number, UNKNOWN, x -> x.reference(reference, 0));
            run.changes("reference " + number, number, x -> x.addReference(5 - reference / 2, 0, CASCADE, false, -1));
            run.still("its child " + number, 5 - number / 2, x -> x.reference(reference, 0));
        }
        run.still("a thirteenth one", FULL, x -> x.addReference(0, 0, CASCADE, false, -1));
        run.still("no reference 12", UNKNOWN, x -> x.reference(12, 0));
    }

    @Holds("Terms, tables and references: A child table has at most 2 references; they are its columns 0 and 1, in the order of their numbers")
    void columnsOfATable() {
        Run run = tables(3);
        run.make(x -> x.addReference(1, 0, RESTRICT, false, -1), x -> x.addReference(0, 0, RESTRICT, false, -1),
                x -> x.addReference(1, 2, RESTRICT, false, -1));
        run.still("a third one", FULL, x -> x.addReference(1, 1, RESTRICT, false, -1));
        run.still("the first column", 0, x -> x.reference(0, 2));
        run.still("the first column of another table", 0, x -> x.reference(1, 2));
        run.still("the second column", 1, x -> x.reference(2, 2));
        run.changes("another table has room", 3, x -> x.addReference(0, 2, RESTRICT, false, -1));
        run.still("the second column of another table", 1, x -> x.reference(3, 2));
        run.changes("to a table with many children", 4, x -> x.addReference(2, 0, RESTRICT, false, -1));
    }

    @Holds("Terms, tables and references: Each row of a child table has, in each of its columns, a value: "
            + "the key of a row of the parent table (its parent by that column), or null")
    void valuesOfARow() {
        Run run = tables(3).make(x -> x.addReference(1, 0, RESTRICT, false, -1),
                x -> x.addReference(2, 0, RESTRICT, false, -1), x -> x.addReference(2, 1, RESTRICT, false, -1),
                x -> x.insert(0, 5, -1, -1), x -> x.insert(1, 6, 5, -1), x -> x.insert(2, 7, -1, 6));
        run.still("no columns", UNKNOWN, x -> x.value(0, 5, 0));
        run.still("one column", 5, x -> x.value(1, 6, 0));
        run.still("not two", UNKNOWN, x -> x.value(1, 6, 1));
        run.still("null", -1, x -> x.value(2, 7, 0));
        run.still("the second column", 6, x -> x.value(2, 7, 1));
        run.still("not three", UNKNOWN, x -> x.value(2, 7, 2));
        run.still("the key of the other column's parent", NO_PARENT, x -> x.update(2, 7, 0, 6));
        run.still("the key of the first column's parent", NO_PARENT, x -> x.update(2, 7, 1, 5));
        run.changes("the key of its parent", -1, x -> x.update(2, 7, 0, 5));
        run.changes("null again", 5, x -> x.update(2, 7, 0, -1));
    }

    @Holds("Terms, tables and references: In calls and results, null is written -1")
    void nullIsMinusOne() {
        Run run = pair(RESTRICT, false, -1).changes("insert", 1, x -> x.insert(1, 0, -1, -1));
        run.still("value", -1, x -> x.value(1, 0, 0));
        run.still("default", -1, x -> x.reference(0, 5));
        run.changes("update from null", -1, x -> x.update(1, 0, 0, 1));
        run.changes("update to null", 1, x -> x.update(1, 0, 0, -1));
        run.still("-2 is no null of insert", OUT_OF_RANGE, x -> x.insert(1, 1, -2, -1));
        run.still("-2 is no null of update", OUT_OF_RANGE, x -> x.update(1, 0, 0, -2));
        run.still("0 is no null", NO_PARENT, x -> x.update(1, 0, 0, 0));
    }

    @Holds("Terms, tables and references: A reference has a delete rule: 0 restrict, 1 no action, 2 cascade, 3 set null, "
            + "4 set default; it can be required (its values must not be null); and it has a default (a key, or null), "
            + "which matters for the rule set default alone")
    void ruleRequiredAndDefault() {
        int[] reasons = {1, 2, 0, 0, 0};
        int[] deleted = {NOT_POSSIBLE, NOT_POSSIBLE, 2, 1, 1};
        int[] values = {1, 1, UNKNOWN, -1, 2};
        for (int number = 0; number <= 4; number++) {
            int rule = number;
            Run run = pair(rule, false, 2).make(x -> x.insert(1, 3, 1, -1));
            run.still("reason of rule " + rule, reasons[rule], x -> x.reason(0, 1));
            run.answers("deletion by rule " + rule, deleted[rule], x -> x.delete(0, 1));
            run.still("value by rule " + rule, values[rule], x -> x.value(1, 3, 0));
        }
        Run run = pair(SET_NULL, true, 2).make(x -> x.insert(1, 3, 1, -1));
        run.still("required, the default does not matter", 3, x -> x.reason(0, 1));
        run.still("required, inserted", REQUIRED, x -> x.insert(1, 4, -1, -1));
        run.still("required, updated", REQUIRED, x -> x.update(1, 3, 0, -1));
        run.make(x -> x.setRule(0, SET_DEFAULT));
        run.still("the default matters", 0, x -> x.reason(0, 1));
    }

    @Holds("Terms, tables and references: A row is a child of another row by a column if its value there is the key of "
            + "that row (and the reference points to that row's table)")
    void childrenByAColumn() {
        Run run = tables(3).make(x -> x.addReference(2, 0, CASCADE, false, -1),
                x -> x.addReference(2, 1, CASCADE, false, -1), x -> x.insert(0, 7, -1, -1),
                x -> x.insert(0, 8, -1, -1), x -> x.insert(1, 7, -1, -1), x -> x.insert(2, 7, 7, -1),
                x -> x.insert(2, 8, 8, 7));
        run.still("by the column 0", 1, x -> x.children(0, 7));
        run.still("by the column 1", 1, x -> x.children(1, 7));
        run.still("another row of the table", 1, x -> x.children(0, 8));
        run.still("the same key in the child table is no parent", 7, x -> x.gathered(0, 7, 1));
        run.still("of the table 0", 207, x -> x.gathered(0, 7, 0));
        run.still("of the table 1", 208, x -> x.gathered(1, 7, 0));
        run.still("no more of the table 1", NONE, x -> x.gathered(1, 7, 2));
    }

    @Holds("Terms, tables and references: A row can be a child of itself")
    void childOfItself() {
        Run run = loops(CASCADE, 1);
        run.still("itself", 1, x -> x.children(0, 1));
        run.still("in a ring", 1, x -> x.isInRing(0, 1));
        run.still("is gathered once", NONE, x -> x.gathered(0, 1, 1));
        run.make(x -> x.insert(0, 2, 1, -1));
        run.changes("by an update", 1, x -> x.update(0, 2, 0, 2));
        run.still("no more of the other", 1, x -> x.children(0, 1));
        run.changes("is deleted", 1, x -> x.delete(0, 2));
    }

    @Holds("Promise 1: Creates a store without tables")
    void aNewObject() {
        Run run = run();
        for (int number = 0; number <= 8; number++) {
            int what = number;
            run.still("total " + what, 0, x -> x.total(what));
        }
        run.still("no table", UNKNOWN, x -> x.rows(0));
        run.still("no reference", UNKNOWN, x -> x.reference(0, 0));
        run.still("no history", NONE, SpreadingDeletes::undo);
        run.still("no snapshot", NONE, SpreadingDeletes::restore);
        run.still("no deletion", NONE, x -> x.deleted(0));
        run.still("no text", -100, SpreadingDeletes::perform);
        run.still("nothing to clear", 0, SpreadingDeletes::clearText);
        run.still("no row to insert into", UNKNOWN, x -> x.insert(0, 0, -1, -1));
        run.still("no tables to refer to", UNKNOWN, x -> x.addReference(0, 0, 0, false, -1));
    }

    @Holds("Promise 2: Adds a table without rows")
    void anAddedTableIsEmpty() {
        Run run = filled(20).changes("a second table", 1, SpreadingDeletes::addTable);
        run.still("no rows", 0, x -> x.rows(1));
        run.still("no key", NONE, x -> x.keyAt(1, 0));
        run.still("nothing to delete", 0, x -> x.deletable(1));
        run.still("no column", OUT_OF_RANGE, x -> x.insert(1, 0, 0, -1));
        run.still("the first table is full still", 20, x -> x.rows(0));
        // What undo takes away must not come back with the next table.
        run.make(x -> x.addReference(1, 0, CASCADE, true, 5), x -> x.insert(1, 3, 4, -1), SpreadingDeletes::undo,
                SpreadingDeletes::undo, SpreadingDeletes::undo, SpreadingDeletes::addTable);
        run.still("no rows again", 0, x -> x.rows(1));
        run.still("no column again", OUT_OF_RANGE, x -> x.insert(1, 0, 0, -1));
    }

    @Holds("Promise 2: This is a change")
    void addTableIsAChange() {
        Run run = run();
        for (int table = 0; table < 6; table++) {
            run.changes("table " + table, table, SpreadingDeletes::addTable);
        }
        run.still("refused, it is none", FULL, SpreadingDeletes::addTable);
        run.answers("undone", 3, SpreadingDeletes::undo);
        run.still("five are left", UNKNOWN, x -> x.rows(5));
    }

    @Holds("Promise 2: Returns its number")
    void addTableTellsTheNumber() {
        Run run = run().changes("the first", 0, SpreadingDeletes::addTable);
        run.make(SpreadingDeletes::undo);
        run.changes("the first again", 0, SpreadingDeletes::addTable);
        run.make(x -> x.insert(0, 50, -1, -1));
        run.changes("the second", 1, SpreadingDeletes::addTable);
        tables(5).changes("the last", 5, SpreadingDeletes::addTable);
    }

    @Holds("Promise 2: FULL if there are 6")
    void aSeventhTable() {
        Run run = tables(5).changes("the sixth", 5, SpreadingDeletes::addTable);
        run.still("the seventh", FULL, SpreadingDeletes::addTable);
        run.make(SpreadingDeletes::undo);
        run.changes("the sixth, after undo", 5, SpreadingDeletes::addTable);
        run.still("the seventh, after undo", FULL, SpreadingDeletes::addTable);
    }

    @Holds("Promise 3: Adds a reference")
    void aReferenceIsAdded() {
        Run run = tables(1).make(x -> x.insert(0, 9, -1, -1), SpreadingDeletes::addTable);
        run.still("no value yet", OUT_OF_RANGE, x -> x.insert(1, 1, 9, -1));
        run.changes("to a table with rows", 0, x -> x.addReference(1, 0, SET_DEFAULT, true, 99));
        int[] facts = {1, 0, 0, 4, 1, 99};
        for (int number = 0; number < 6; number++) {
            int what = number;
            run.still("fact " + what, facts[what], x -> x.reference(0, what));
        }
        run.still("one reference", 1, x -> x.total(1));
        run.still("null is refused now", REQUIRED, x -> x.insert(1, 1, -1, -1));
        run.changes("a value is taken now", 1, x -> x.insert(1, 1, 9, -1));
    }

    @Holds("Promise 3: This is a change")
    void addReferenceIsAChange() {
        Run run = tables(6);
        for (int number = 0; number < 12; number++) {
            int child = number / 2;
            run.changes("reference " + number, number, x -> x.addReference(child, 0, CASCADE, false, -1));
        }
        run.make(SpreadingDeletes::undo);
        run.still("undone", UNKNOWN, x -> x.reference(11, 0));
        run.still("its column is gone", OUT_OF_RANGE, x -> x.insert(5, 0, -1, 0));
    }

    @Holds("Promise 3: Returns its number")
    void addReferenceTellsTheNumber() {
        Run run = tables(3).changes("the first", 0, x -> x.addReference(2, 1, RESTRICT, false, -1));
        run.changes("the second", 1, x -> x.addReference(0, 1, RESTRICT, false, -1));
        run.make(SpreadingDeletes::undo);
        run.changes("the second again", 1, x -> x.addReference(1, 1, RESTRICT, false, -1));
        run.changes("the third", 2, x -> x.addReference(2, 0, RESTRICT, false, -1));
    }

    @Holds({"Promise 3: UNKNOWN (child or parent)", "Promise 3: `child`: the child table",
        "Promise 3: `parent`: the parent table"})
    void addReferenceOfNoTable() {
        Run run = tables(2);
        for (int table : outside(0, 1)) {
            run.still("child " + table, UNKNOWN, x -> x.addReference(table, 0, RESTRICT, false, -1));
            run.still("parent " + table, UNKNOWN, x -> x.addReference(0, table, RESTRICT, false, -1));
        }
        run.changes("the least child", 0, x -> x.addReference(0, 1, RESTRICT, false, -1));
        run.changes("the greatest child", 1, x -> x.addReference(1, 0, RESTRICT, false, -1));
        Run full = tables(6);
        full.still("child 6", UNKNOWN, x -> x.addReference(6, 0, RESTRICT, false, -1));
        full.still("parent 6", UNKNOWN, x -> x.addReference(0, 6, RESTRICT, false, -1));
        full.changes("the last table", 0, x -> x.addReference(5, 5, RESTRICT, false, -1));
    }

    @Holds("Promise 3: `rule`: 0 to 4")
    void rulesOfANewReference() {
        Run run = tables(3);
        for (int number = 0; number <= 4; number++) {
            int rule = number;
            run.changes("rule " + rule, rule, x -> x.addReference(rule / 2, 0, rule, false, -1));
            run.still("is rule " + rule, rule, x -> x.reference(rule, 3));
        }
        run.still("below", OUT_OF_RANGE, x -> x.addReference(2, 0, -1, false, -1));
        run.still("above", OUT_OF_RANGE, x -> x.addReference(2, 0, 5, false, -1));
    }

    @Holds("Promise 3: `required`: whether its values must not be null")
    void requiredOrNot() {
        Run run = tables(2).make(x -> x.addReference(0, 1, RESTRICT, false, -1),
                x -> x.addReference(0, 1, RESTRICT, true, -1), x -> x.insert(1, 1, -1, -1));
        run.still("not required", 0, x -> x.reference(0, 4));
        run.still("required", 1, x -> x.reference(1, 4));
        run.still("null where it must not be", REQUIRED, x -> x.insert(0, 1, 1, -1));
        run.changes("null where it may be", 1, x -> x.insert(0, 1, -1, 1));
        run.still("null again", REQUIRED, x -> x.update(0, 1, 1, -1));
    }

    @Holds("Promise 3: `standard`: the default: 0 to 99, or -1 for null")
    void defaultsOfANewReference() {
        int[] defaults = {-1, 0, 99};
        Run run = tables(2);
        for (int number = 0; number < 3; number++) {
            int standard = defaults[number];
            int reference = number;
            run.changes("default " + standard, reference, x -> x.addReference(reference / 2, 0, 4, false, standard));
            run.still("is the default " + standard, standard, x -> x.reference(reference, 5));
        }
        run.still("below", OUT_OF_RANGE, x -> x.addReference(1, 0, 4, false, -2));
        run.still("above", OUT_OF_RANGE, x -> x.addReference(1, 0, 4, false, 100));
    }

    @Holds("Promise 3: OUT_OF_RANGE (rule or standard)")
    void addReferenceOutOfRange() {
        Run run = tables(2);
        for (int rule : outside(0, 4)) {
            run.still("rule " + rule, OUT_OF_RANGE, x -> x.addReference(1, 0, rule, false, -1));
        }
        for (int standard : outside(-1, 99)) {
            run.still("default " + standard, OUT_OF_RANGE, x -> x.addReference(1, 0, SET_DEFAULT, false, standard));
            run.still("default " + standard + " of another rule", OUT_OF_RANGE,
                    x -> x.addReference(1, 0, CASCADE, true, standard));
        }
        run.changes("all at their least", 0, x -> x.addReference(0, 0, 0, false, -1));
        run.changes("all at their greatest", 1, x -> x.addReference(1, 1, 4, true, 99));
    }

    @Holds("Promise 3: FULL if there are 12 references, or the child table has 2")
    void noRoomForAReference() {
        Run run = tables(2).make(x -> x.addReference(0, 1, RESTRICT, false, -1));
        run.changes("a second one", 1, x -> x.addReference(0, 1, RESTRICT, false, -1));
        run.still("a third one", FULL, x -> x.addReference(0, 1, RESTRICT, false, -1));
        run.changes("of another child", 2, x -> x.addReference(1, 0, RESTRICT, false, -1));
        Run twelve = twelveReferences();
        for (int number = 0; number < 6; number++) {
            int child = number;
            twelve.still("a thirteenth one of " + child, FULL, x -> x.addReference(child, 0, RESTRICT, false, -1));
        }
        twelve.make(SpreadingDeletes::undo);
        twelve.still("one that has 2", FULL, x -> x.addReference(4, 0, RESTRICT, false, -1));
        twelve.changes("the twelfth again", 11, x -> x.addReference(5, 0, RESTRICT, false, -1));
    }

    @Holds("Promise 3: NOT_POSSIBLE if the child table has rows")
    void addReferenceToRows() {
        Run run = tables(2).make(x -> x.insert(0, 1, -1, -1));
        run.still("the child has a row", NOT_POSSIBLE, x -> x.addReference(0, 1, RESTRICT, false, -1));
        run.still("itself", NOT_POSSIBLE, x -> x.addReference(0, 0, RESTRICT, false, -1));
        run.changes("the parent has a row", 0, x -> x.addReference(1, 0, RESTRICT, false, -1));
        run.make(x -> x.insert(1, 1, 1, -1));
        run.still("with one column already", NOT_POSSIBLE, x -> x.addReference(1, 0, RESTRICT, false, -1));
        run.make(x -> x.delete(1, 1));
        run.changes("the row is gone", 1, x -> x.addReference(1, 0, RESTRICT, false, -1));
    }

    @Holds("Promise 4: Sets the delete rule of a reference")
    void onlyTheRuleIsSet() {
        Run run = twelveReferences();
        run.changes("the last one", CASCADE, x -> x.setRule(11, SET_NULL));
        run.still("the rule", SET_NULL, x -> x.reference(11, 3));
        int[] others = {5, 0, 1, 3, 0, -1};
        for (int number = 0; number < 6; number++) {
            int what = number;
            run.still("fact " + what, others[what], x -> x.reference(11, what));
        }
        run.still("the one ahead", CASCADE, x -> x.reference(10, 3));
        Run pair = pair(RESTRICT, false, -1).make(x -> x.insert(1, 3, 1, -1));
        pair.still("refused", 1, x -> x.reason(0, 1));
        pair.changes("with rows", RESTRICT, x -> x.setRule(0, SET_NULL));
        pair.still("not refused", 0, x -> x.reason(0, 1));
    }

    @Holds("Promise 4: This is a change")
    void setRuleIsAChange() {
        Run run = pair(RESTRICT, false, -1);
        run.changes("by one", RESTRICT, x -> x.setRule(0, NO_ACTION));
        run.changes("again", NO_ACTION, x -> x.setRule(0, RESTRICT));
        run.still("to the same one, it is none", NONE, x -> x.setRule(0, RESTRICT));
        run.make(SpreadingDeletes::undo);
        run.still("undone", NO_ACTION, x -> x.reference(0, 3));
    }

    @Holds("Promise 4: Returns the previous rule")
    void setRuleTellsThePreviousOne() {
        Run run = pair(RESTRICT, false, -1);
        int[] rules = {4, 3, 2, 1, 0, 2};
        int previous = 0;
        for (int rule : rules) {
            run.changes("rule " + rule, previous, x -> x.setRule(0, rule));
            previous = rule;
        }
    }

    @Holds({"Promise 4: UNKNOWN", "Promise 4: `reference`: a reference"})
    void setRuleOfNoReference() {
        tables(1).still("none at all", UNKNOWN, x -> x.setRule(0, CASCADE));
        Run run = pair(RESTRICT, false, -1);
        for (int reference : outside(0, 0)) {
            run.still("reference " + reference, UNKNOWN, x -> x.setRule(reference, CASCADE));
        }
        run.changes("the only one", RESTRICT, x -> x.setRule(0, CASCADE));
        Run twelve = twelveReferences();
        twelve.still("the thirteenth", UNKNOWN, x -> x.setRule(12, RESTRICT));
        twelve.changes("the twelfth", CASCADE, x -> x.setRule(11, RESTRICT));
    }

    @Holds({"Promise 4: OUT_OF_RANGE", "Promise 4: `rule`: 0 to 4"})
    void setRuleOutOfRange() {
        Run run = pair(NO_ACTION, false, -1);
        for (int rule : outside(0, 4)) {
            run.still("rule " + rule, OUT_OF_RANGE, x -> x.setRule(0, rule));
        }
        run.changes("the greatest", NO_ACTION, x -> x.setRule(0, 4));
        run.changes("the least", SET_DEFAULT, x -> x.setRule(0, 0));
    }

    @Holds("Promise 4: NONE if it is the rule already")
    void setRuleToTheSame() {
        for (int number = 0; number <= 4; number++) {
            int rule = number;
            Run run = pair(rule, false, -1);
            run.still("rule " + rule, NONE, x -> x.setRule(0, rule));
            run.changes("another one", rule, x -> x.setRule(0, (rule + 1) % 5));
            run.still("the new one", NONE, x -> x.setRule(0, (rule + 1) % 5));
            run.changes("the old one", (rule + 1) % 5, x -> x.setRule(0, rule));
        }
    }
}
