/** The boundary cases of what there is: the promises 14 to 20. */
final class QuestionBoundaries extends Boundaries {
    QuestionBoundaries(Check check) {
        super(check);
    }

    /** Three references, each fact of which differs from its neighbours. */
    private Run references() {
        return tables(6).make(x -> x.addReference(5, 4, SET_DEFAULT, true, 99),
                x -> x.addReference(0, 0, RESTRICT, false, -1), x -> x.addReference(5, 0, CASCADE, false, 0));
    }

    /** Row 0:50 with the children 1:0, 1:50 and 1:99 by the column 0; each is its own by the column 1. */
    private Run family() {
        return tables(2).make(x -> x.addReference(1, 0, CASCADE, false, -1),
                x -> x.addReference(1, 1, SET_NULL, false, -1), x -> x.insert(0, 50, -1, -1),
                x -> x.insert(0, 51, -1, -1), x -> x.insert(1, 99, 50, 99), x -> x.insert(1, 0, 50, 0),
                x -> x.insert(1, 50, 50, 50));
    }

    @Holds({"Promise 14: Returns how many rows a table has", "Promise 14: Returns the number of rows"})
    void rowsFromNoneToTwenty() {
        Run run = tables(2);
        for (int number = 0; number < 20; number++) {
            int rows = number;
            run.still("rows", rows, x -> x.rows(0));
            run.make(x -> x.insert(0, rows, -1, -1));
        }
        run.still("a full table", 20, x -> x.rows(0));
        run.answers("one more", FULL, x -> x.insert(0, 20, -1, -1)).still("is not there", 20, x -> x.rows(0));
        run.still("the other table", 0, x -> x.rows(1));
        run.make(x -> x.delete(0, 0));
        run.still("after a deletion", 19, x -> x.rows(0));
    }

    @Holds({"Promise 14: UNKNOWN", "Promise 14: `table`: a table"})
    void rowsOfNoTable() {
        run().still("no table at all", UNKNOWN, x -> x.rows(0));
        Run run = tables(6);
        for (int table : outside(0, 5)) {
            run.still("table " + table, UNKNOWN, x -> x.rows(table));
        }
        run.still("the least", 0, x -> x.rows(0));
        run.still("the greatest", 0, x -> x.rows(5));
        tables(5).still("not yet the sixth", UNKNOWN, x -> x.rows(5));
    }

    @Holds({"Promise 15: Returns a key of a table", "Promise 15: Returns the key"})
    void theKeys() {
        Run run = tables(2).make(x -> x.insert(1, 0, -1, -1));
        run.still("the least key of all", 0, x -> x.keyAt(1, 0));
        run.make(x -> x.insert(0, 99, -1, -1));
        run.still("the greatest key of all", 99, x -> x.keyAt(0, 0));
        run.make(x -> x.insert(0, 1, -1, -1), x -> x.delete(1, 0));
        run.still("its own table's", 1, x -> x.keyAt(0, 0));
        run.still("of an empty table", NONE, x -> x.keyAt(1, 0));
    }

    @Holds("Promise 15: `rank`: 0 for the least key, 1 for the next one, and so on")
    void keysByRank() {
        Run run = tables(2);
        for (int number = 0; number < 20; number++) {
            int key = (number * 7 + 3) % 20 * 5;
            run.make(x -> x.insert(1, key, -1, -1));
        }
        for (int number = 0; number < 20; number++) {
            int rank = number;
            run.still("rank " + rank, 5 * rank, x -> x.keyAt(1, rank));
        }
        run.make(x -> x.delete(1, 0), x -> x.delete(1, 50));
        run.still("the next one is the least", 5, x -> x.keyAt(1, 0));
        run.still("below the gap", 45, x -> x.keyAt(1, 8));
        run.still("above the gap", 55, x -> x.keyAt(1, 9));
        run.still("the last", 95, x -> x.keyAt(1, 17));
    }

    @Holds({"Promise 15: UNKNOWN", "Promise 15: `table`: a table"})
    void keyOfNoTable() {
        run().still("no table at all", UNKNOWN, x -> x.keyAt(0, 0));
        Run run = filled(3);
        for (int table : outside(0, 0)) {
            run.still("table " + table, UNKNOWN, x -> x.keyAt(table, 0));
            run.still("table " + table + " and no rank", UNKNOWN, x -> x.keyAt(table, -1));
        }
        run.still("the table", 0, x -> x.keyAt(0, 0));
        tables(6).still("the last table", NONE, x -> x.keyAt(5, 0));
        tables(6).still("behind the last table", UNKNOWN, x -> x.keyAt(6, 0));
    }

    @Holds("Promise 15: OUT_OF_RANGE if rank is negative")
    void negativeRank() {
        Run run = filled(3);
        for (int rank : new int[] {-1, -2, -20, -100, Integer.MIN_VALUE}) {
            run.still("rank " + rank, OUT_OF_RANGE, x -> x.keyAt(0, rank));
            tables(1).still("rank " + rank + " of no row", OUT_OF_RANGE, x -> x.keyAt(0, rank));
            tables(2).make(x -> x.insert(0, 5, -1, -1)).still("rank " + rank + " of another table", OUT_OF_RANGE,
                    x -> x.keyAt(1, rank));
        }
        run.still("rank 0", 0, x -> x.keyAt(0, 0));
    }

    @Holds("Promise 15: NONE if there are not so many rows")
    void rankBehindTheRows() {
        tables(1).still("of no row", NONE, x -> x.keyAt(0, 0));
        Run run = filled(3).make(SpreadingDeletes::addTable, x -> x.insert(1, 5, -1, -1));
        run.still("the last", 2, x -> x.keyAt(0, 2));
        for (int rank : new int[] {3, 4, 19, 20, 21, 100, 256, 65536, 1 << 30, Integer.MAX_VALUE}) {
            run.still("rank " + rank, NONE, x -> x.keyAt(0, rank));
        }
        run.make(x -> x.delete(0, 1));
        run.still("after a deletion", NONE, x -> x.keyAt(0, 2));
        filled(20).still("the last of a full table", 19, x -> x.keyAt(0, 19));
        filled(20).still("behind a full table", NONE, x -> x.keyAt(0, 20));
    }

    @Holds("Promise 16: Returns a value of a row")
    void aValueOfARow() {
        Run run = family();
        for (int key : new int[] {0, 50, 99}) {
            run.still("column 0 of " + key, 50, x -> x.value(1, key, 0));
            run.still("column 1 of " + key, key, x -> x.value(1, key, 1));
        }
        run.make(x -> x.delete(1, 0));
        run.still("behind a deleted row", 50, x -> x.value(1, 50, 1));
        run.still("the last behind a deleted row", 99, x -> x.value(1, 99, 1));
    }

    @Holds("Promise 16: Returns the value, -1 for null")
    void theValueOrNull() {
        Run run = tables(2).make(x -> x.addReference(1, 0, RESTRICT, false, -1),
                x -> x.addReference(1, 0, RESTRICT, false, -1), x -> x.insert(0, 0, -1, -1),
                x -> x.insert(0, 99, -1, -1), x -> x.insert(1, 1, 0, 99), x -> x.insert(1, 2, -1, 0),
                x -> x.insert(1, 3, 99, -1));
        int[][] values = {{0, 99}, {-1, 0}, {99, -1}};
        for (int place = 0; place < 3; place++) {
            int key = place + 1;
            run.still("column 0 of " + key, values[place][0], x -> x.value(1, key, 0));
            run.still("column 1 of " + key, values[place][1], x -> x.value(1, key, 1));
        }
    }

    @Holds({"Promise 16: UNKNOWN (table, row or column)", "Promise 16: `table`: a table", "Promise 16: `key`: the key of a row",
        "Promise 16: `column`: a column of the table"})
    void valueOfNothing() {
        run().still("no table at all", UNKNOWN, x -> x.value(0, 0, 0));
        Run run = family();
        for (int table : outside(0, 1)) {
            run.still("table " + table, UNKNOWN, x -> x.value(table, 50, 0));
        }
        for (int key : outside(0, 99)) {
            run.still("key " + key, UNKNOWN, x -> x.value(1, key, 0));
        }
        for (int column : outside(0, 1)) {
            run.still("column " + column, UNKNOWN, x -> x.value(1, 50, column));
        }
        run.still("a row of the other table", UNKNOWN, x -> x.value(1, 51, 0));
        run.still("next below", UNKNOWN, x -> x.value(1, 49, 0));
        run.still("next above the least", UNKNOWN, x -> x.value(1, 1, 0));
        run.still("a table without columns", UNKNOWN, x -> x.value(0, 50, 0));
        run.still("the key of the child, counted from the table 0", UNKNOWN, x -> x.value(0, 150, 0));
        run.still("the greatest of all", 99, x -> x.value(1, 99, 1));
        run.still("the least of all", 50, x -> x.value(1, 0, 0));
        pair(RESTRICT, false, -1).make(x -> x.insert(1, 3, 1, -1)).still("the second of one column", UNKNOWN,
                x -> x.value(1, 3, 1));
    }

    @Holds({"Promise 17: Returns how many children a row has by a reference", "Promise 17: Returns the number of children"})
    void childrenFromNoneToTwenty() {
        Run run = tables(2).make(x -> x.addReference(1, 0, RESTRICT, false, -1),
                x -> x.addReference(1, 0, RESTRICT, false, -1), x -> x.insert(0, 5, -1, -1), x -> x.insert(0, 6, -1, -1));
        for (int number = 0; number < 20; number++) {
            int count = number;
            run.still("children by the reference 0", count, x -> x.children(0, 5));
            run.still("children by the reference 1", count / 2, x -> x.children(1, 5));
            run.make(x -> x.insert(1, count, 5, count % 2 == 0 ? -1 : 5));
        }
        run.still("twenty", 20, x -> x.children(0, 5));
        run.still("ten", 10, x -> x.children(1, 5));
        run.still("of another row", 0, x -> x.children(0, 6));
        run.make(x -> x.update(1, 0, 0, 6), x -> x.update(1, 1, 0, -1), x -> x.delete(1, 3));
        run.still("without three", 17, x -> x.children(0, 5));
        run.still("of another row, one", 1, x -> x.children(0, 6));
        loops(RESTRICT, 1).still("itself", 1, x -> x.children(0, 1));
    }

    @Holds({"Promise 17: UNKNOWN (reference or row)", "Promise 17: `reference`: a reference",
        "Promise 17: `key`: the key of a row of its parent table"})
    void childrenOfNothing() {
        tables(1).still("no reference at all", UNKNOWN, x -> x.children(0, 0));
        Run run = family();
        for (int reference : outside(0, 1)) {
            run.still("reference " + reference, UNKNOWN, x -> x.children(reference, 50));
        }
        for (int key : outside(0, 99)) {
            run.still("key " + key + " of the reference 0", UNKNOWN, x -> x.children(0, key));
            run.still("key " + key + " of the reference 1", UNKNOWN, x -> x.children(1, key));
        }
        run.still("a row of the child table alone", UNKNOWN, x -> x.children(0, 99));
        run.still("a row of the child table, which is the parent table, too", 1, x -> x.children(1, 99));
        run.still("a row of another table alone", UNKNOWN, x -> x.children(1, 51));
        run.still("a row without children", 0, x -> x.children(0, 51));
        run.make(x -> x.insert(1, 1, -1, -1));
        run.still("null is the key of no row", UNKNOWN, x -> x.children(0, -1));
        run.make(x -> x.delete(0, 51));
        run.still("a deleted row", UNKNOWN, x -> x.children(0, 51));
    }

    @Holds({"Promise 18: Returns something of a reference", "Promise 18: Returns the number"})
    void factsOfTwelveReferences() {
        Run run = tables(6);
        for (int number = 0; number < 12; number++) {
            int reference = number;
            run.make(x -> x.addReference(5 - reference % 6, reference / 2, reference % 5, reference % 3 == 0,
                    reference * 9 - (reference == 0 ? 1 : 0)));
        }
        for (int number = 0; number < 12; number++) {
            int reference = number;
            int[] facts = {5 - reference % 6, reference / 2, reference / 6, reference % 5, reference % 3 == 0 ? 1 : 0,
                reference * 9 - (reference == 0 ? 1 : 0)};
            for (int place = 0; place < 6; place++) {
                int what = place;
                run.still("fact " + what + " of " + reference, facts[what], x -> x.reference(reference, what));
            }
        }
    }

    @Holds("Promise 18: `what`: 0 for its child table, 1 for its parent table, 2 for its column, 3 for its rule, 4 for whether "
            + "it is required (1, otherwise 0), 5 for its default (-1 for null)")
    void factsOfAReference() {
        Run run = references();
        int[][] facts = {{5, 4, 0, 4, 1, 99}, {0, 0, 0, 0, 0, -1}, {5, 0, 1, 2, 0, 0}};
        for (int place = 0; place < 18; place++) {
            int reference = place / 6;
            int what = place % 6;
            run.still("fact " + what + " of " + reference, facts[reference][what], x -> x.reference(reference, what));
        }
    }

    @Holds({"Promise 18: UNKNOWN", "Promise 18: `reference`: a reference"})
    void factOfNoReference() {
        tables(1).still("none at all", UNKNOWN, x -> x.reference(0, 0));
        Run run = references();
        for (int reference : outside(0, 2)) {
            run.still("reference " + reference, UNKNOWN, x -> x.reference(reference, 0));
            run.still("reference " + reference + " and no fact", UNKNOWN, x -> x.reference(reference, -1));
        }
        run.still("the least", 5, x -> x.reference(0, 0));
        run.still("the greatest", 5, x -> x.reference(2, 0));
        run.make(SpreadingDeletes::undo);
        run.still("undone", UNKNOWN, x -> x.reference(2, 0));
    }

    @Holds("Promise 18: OUT_OF_RANGE")
    void noSuchFact() {
        Run run = references();
        for (int what : outside(0, 5)) {
            run.still("what " + what, OUT_OF_RANGE, x -> x.reference(0, what));
            run.still("what " + what + " of the last", OUT_OF_RANGE, x -> x.reference(2, what));
        }
        run.still("the least", 5, x -> x.reference(0, 0));
        run.still("the greatest", 99, x -> x.reference(0, 5));
    }

    @Holds("Promise 19: Returns a row that the latest deletion deleted (by delete() or a statement)")
    void theLatestDeletion() {
        Run run = family().make(x -> x.delete(0, 51));
        run.still("by delete()", 51, x -> x.deleted(0));
        Run text = run.text("-1:99;-0:50;+0:7").make(SpreadingDeletes::perform);
        text.still("by a statement", 100, x -> x.deleted(0));
        text.still("the last by a statement", 50, x -> x.deleted(2));
        text.still("not of the statement ahead of it", NONE, x -> x.deleted(3));
        run.answers("refused", UNKNOWN, x -> x.delete(0, 51));
        run.still("a refused one is none", 51, x -> x.deleted(0));
        Run failing = run.text("-0:50;-0:50").answers("failing", UNKNOWN, SpreadingDeletes::perform);
        failing.still("one of a failing text is none", 51, x -> x.deleted(0));
        failing.still("one of a failing text is none", NONE, x -> x.deleted(1));
        run.make(x -> x.insert(0, 51, -1, -1), x -> x.setRule(0, SET_NULL), SpreadingDeletes::addTable);
        run.still("other changes leave it", 51, x -> x.deleted(0));
    }

    @Holds("Promise 19: `index`: 0 for the row that was deleted first, 1 for the next one, and so on")
    void deletedInTheirOrder() {
        Run run = family().make(x -> x.delete(0, 50));
        int[] rows = {100, 150, 199, 50};
        for (int place = 0; place < rows.length; place++) {
            int index = place;
            run.still("index " + index, rows[index], x -> x.deleted(index));
        }
    }

    @Holds("Promise 19: Returns 100 times its table plus its key")
    void numbersOfDeletedRows() {
        filled(1).make(x -> x.delete(0, 0)).still("the least", 0, x -> x.deleted(0));
        tables(6).make(x -> x.insert(5, 99, -1, -1), x -> x.delete(5, 99)).still("the greatest", 599, x -> x.deleted(0));
        tables(6).make(x -> x.insert(5, 0, -1, -1), x -> x.delete(5, 0)).still("the last table", 500, x -> x.deleted(0));
        tables(2).make(x -> x.insert(0, 99, -1, -1), x -> x.delete(0, 99)).still("the first table", 99,
                x -> x.deleted(0));
    }

    @Holds("Promise 19: OUT_OF_RANGE if index is negative")
    void negativeIndexOfDeletedRows() {
        Run run = family().make(x -> x.delete(0, 50));
        for (int index : new int[] {-1, -2, -100, Integer.MIN_VALUE}) {
            run.still("index " + index, OUT_OF_RANGE, x -> x.deleted(index));
            run().still("index " + index + " ahead of all deletions", OUT_OF_RANGE, x -> x.deleted(index));
        }
        run.still("index 0", 100, x -> x.deleted(0));
    }

    @Holds("Promise 19: NONE if there is none")
    void indexBehindTheDeletedRows() {
        run().still("a new object", NONE, x -> x.deleted(0));
        family().still("no deletion yet", NONE, x -> x.deleted(0));
        Run run = family().make(x -> x.delete(0, 50));
        run.still("the last", 50, x -> x.deleted(3));
        for (int index : new int[] {4, 5, 119, 120, 121, 256, 65536, Integer.MAX_VALUE}) {
            run.still("index " + index, NONE, x -> x.deleted(index));
        }
        run.make(x -> x.delete(0, 51));
        run.still("of a longer deletion ahead of it", NONE, x -> x.deleted(1));
        run.make(SpreadingDeletes::undo, SpreadingDeletes::undo);
        run.still("all deletions undone", NONE, x -> x.deleted(0));
    }

    @Holds({"Promise 20: Returns a number of the whole store", "Promise 20: Returns the number"})
    void totalsOfAFullStore() {
        Run run = tables(6);
        for (int number = 0; number < 12; number++) {
            int child = number % 6;
            run.make(x -> x.addReference(child, child, CASCADE, false, -1));
        }
        for (int row = 0; row < 120; row++) {
            int table = row / 20;
            int key = row % 20;
            run.make(x -> x.insert(table, key, -1, -1));
        }
        int[] totals = {6, 12, 120, 240, 120, 0, 0, 4, 0};
        for (int number = 0; number < totals.length; number++) {
            int what = number;
            run.copy().answers("total " + what, totals[what], x -> x.total(what));
        }
        run.make(x -> x.delete(0, 0), x -> x.update(5, 19, 1, 19));
        run.answers("rows", 119, x -> x.total(2));
        run.answers("nulls", 237, x -> x.total(3));
        run.answers("deleted", 1, x -> x.total(5));
    }

    @Holds("Promise 20: `what`: 0 for the tables, 1 for the references, 2 for the rows, 3 for values that are null, 4 for rows "
            + "inserted so far, 5 for rows deleted so far, 6 for values changed by deletions so far, 7 for the states in the "
            + "history, 8 for the length of the text")
    void eachTotal() {
        Run run = busy();
        totals(run, 2, 2, 4, 1, 5, 1, 0, 4, 9);
        run.make(x -> x.delete(1, 4));
        totals(run, 2, 2, 3, 1, 5, 2, 1, 4, 9);
        run.make(x -> x.delete(1, 3));
        totals(run, 2, 2, 2, 0, 5, 3, 1, 4, 9);
        run.make(SpreadingDeletes::addTable, x -> x.addReference(2, 0, SET_DEFAULT, false, 2),
                x -> x.insert(2, 0, 1, -1), x -> x.insert(2, 1, -1, -1), x -> x.delete(0, 1), SpreadingDeletes::clearText);
        totals(run, 3, 3, 3, 1, 7, 4, 2, 4, 0);
        run.make(SpreadingDeletes::undo);
        totals(run, 3, 3, 4, 1, 7, 3, 1, 3, 0);
        run.make(x -> x.update(2, 0, 0, -1));
        totals(run, 3, 3, 4, 2, 7, 3, 1, 4, 0);
        run.make(SpreadingDeletes::restore, x -> x.type('x'));
        totals(run, 2, 2, 4, 2, 4, 0, 0, 4, 1);
    }

    private static void totals(Run run, int... totals) {
        for (int number = 0; number < totals.length; number++) {
            int what = number;
            run.still("total " + what, totals[what], x -> x.total(what));
        }
    }

    @Holds("Promise 20: OUT_OF_RANGE")
    void noSuchTotal() {
        Run run = busy();
        for (int what : outside(0, 8)) {
            run.still("what " + what, OUT_OF_RANGE, x -> x.total(what));
        }
        run.still("the least", 2, x -> x.total(0));
        run.still("the greatest", 9, x -> x.total(8));
    }
}
