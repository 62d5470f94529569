/** The boundary cases of rows and their values: the promises 5 and 6. */
final class RowBoundaries extends Boundaries {
    RowBoundaries(Check check) {
        super(check);
    }

    /** Rows 0:1, 0:2 and 1:4, whose column 0 points to table 0 and column 1 to table 1 itself. */
    private Run columns(boolean firstRequired, boolean secondRequired) {
        return tables(2).make(x -> x.addReference(1, 0, RESTRICT, firstRequired, -1),
                x -> x.addReference(1, 1, RESTRICT, secondRequired, -1), x -> x.insert(0, 1, -1, -1),
                x -> x.insert(0, 2, -1, -1), x -> x.insert(1, 4, 1, 4));
    }

    @Holds("Promise 5: Inserts a row")
    void aRowIsInserted() {
        Run run = columns(false, false);
        run.still("no row yet", UNKNOWN, x -> x.value(1, 5, 0));
        run.changes("ahead of the others", 2, x -> x.insert(1, 3, 2, 4));
        run.changes("behind the others", 3, x -> x.insert(1, 5, -1, 3));
        run.still("the least", 3, x -> x.keyAt(1, 0));
        run.still("the next", 4, x -> x.keyAt(1, 1));
        run.still("the greatest", 5, x -> x.keyAt(1, 2));
        run.still("the moved row keeps its value", 1, x -> x.value(1, 4, 0));
        run.still("the moved row keeps its second value", 4, x -> x.value(1, 4, 1));
        run.still("rows in all", 5, x -> x.total(2));
        run.still("inserted so far", 5, x -> x.total(4));
        run.still("other tables", 2, x -> x.rows(0));
    }

    @Holds("Promise 5: The first value is that of the column 0, the second one that of the column 1")
    void firstAndSecondValue() {
        Run run = columns(false, false);
        run.changes("both", 2, x -> x.insert(1, 5, 2, 4));
        run.still("the first", 2, x -> x.value(1, 5, 0));
        run.still("the second", 4, x -> x.value(1, 5, 1));
        run.still("the other way round", NO_PARENT, x -> x.insert(1, 6, 4, 2));
        run.changes("the first alone", 3, x -> x.insert(1, 6, 1, -1));
        run.still("the second is null", -1, x -> x.value(1, 6, 1));
        run.changes("the second alone", 4, x -> x.insert(1, 7, -1, 4));
        run.still("the first is null", -1, x -> x.value(1, 7, 0));
    }

    @Holds("Promise 5: This is a change")
    void insertIsAChange() {
        Run run = columns(false, false);
        run.changes("a row", 2, x -> x.insert(1, 3, 1, 4));
        run.changes("another one", 3, x -> x.insert(0, 0, -1, -1));
        run.still("refused, it is none", DUPLICATE, x -> x.insert(0, 0, -1, -1));
        run.make(SpreadingDeletes::undo, SpreadingDeletes::undo);
        run.still("undone", 1, x -> x.rows(1));
        run.still("not counted any more", 3, x -> x.total(4));
    }

    @Holds({"Promise 5: UNKNOWN (table)", "Promise 5: `table`: a table"})
    void insertIntoNoTable() {
        run().still("no table at all", UNKNOWN, x -> x.insert(0, 5, -1, -1));
        Run run = tables(2);
        for (int table : outside(0, 1)) {
            run.still("table " + table, UNKNOWN, x -> x.insert(table, 5, -1, -1));
        }
        run.changes("the least", 1, x -> x.insert(0, 5, -1, -1));
        run.changes("the greatest", 1, x -> x.insert(1, 5, -1, -1));
        tables(6).changes("the last of six", 1, x -> x.insert(5, 5, -1, -1));
        tables(6).still("behind the last of six", UNKNOWN, x -> x.insert(6, 5, -1, -1));
    }

    @Holds("Promise 5: `key`: 0 to 99")
    void keysOfNewRows() {
        Run run = tables(2);
        for (int key : outside(0, 99)) {
            run.still("key " + key, OUT_OF_RANGE, x -> x.insert(0, key, -1, -1));
        }
        run.changes("the greatest", 1, x -> x.insert(0, 99, -1, -1));
        run.changes("the least", 2, x -> x.insert(0, 0, -1, -1));
        run.still("is the least", 0, x -> x.keyAt(0, 0));
        run.still("is the greatest", 99, x -> x.keyAt(0, 1));
        run.still("the next table stays empty", 0, x -> x.rows(1));
    }

    @Holds("Promise 5: `first`: a key, or -1; -1 if the table has no column 0")
    void firstValues() {
        Run run = tables(2).make(x -> x.addReference(1, 0, RESTRICT, false, -1), x -> x.insert(0, 0, -1, -1),
                x -> x.insert(0, 99, -1, -1));
        run.changes("the least", 1, x -> x.insert(1, 1, 0, -1));
        run.changes("the greatest", 2, x -> x.insert(1, 2, 99, -1));
        run.changes("null", 3, x -> x.insert(1, 3, -1, -1));
        for (int value : outside(-1, 99)) {
            run.still("value " + value, OUT_OF_RANGE, x -> x.insert(1, 4, value, -1));
            run.still("value " + value + " without a column", OUT_OF_RANGE, x -> x.insert(0, 4, value, -1));
        }
        run.still("a key without a column", OUT_OF_RANGE, x -> x.insert(0, 4, 0, -1));
        run.still("the greatest key without a column", OUT_OF_RANGE, x -> x.insert(0, 4, 99, -1));
        run.still("its own key without a column", OUT_OF_RANGE, x -> x.insert(0, 4, 4, -1));
        run.changes("null without a column", 3, x -> x.insert(0, 4, -1, -1));
    }

    @Holds("Promise 5: `second`: a key, or -1; -1 if the table has no column 1")
    void secondValues() {
        Run run = tables(2).make(x -> x.addReference(1, 0, RESTRICT, false, -1),
                x -> x.addReference(1, 0, RESTRICT, false, -1), x -> x.addReference(0, 0, RESTRICT, false, -1),
                x -> x.insert(0, 0, -1, -1), x -> x.insert(0, 99, -1, -1));
        run.changes("the least", 1, x -> x.insert(1, 1, -1, 0));
        run.changes("the greatest", 2, x -> x.insert(1, 2, -1, 99));
        run.changes("null", 3, x -> x.insert(1, 3, 0, -1));
        for (int value : outside(-1, 99)) {
            run.still("value " + value, OUT_OF_RANGE, x -> x.insert(1, 4, -1, value));
            run.still("value " + value + " without a column", OUT_OF_RANGE, x -> x.insert(0, 4, -1, value));
        }
        run.still("a key without a column", OUT_OF_RANGE, x -> x.insert(0, 4, 0, 0));
        run.still("the greatest key without a column", OUT_OF_RANGE, x -> x.insert(0, 4, -1, 99));
        run.changes("null without a column", 3, x -> x.insert(0, 4, 99, -1));
    }

    @Holds("Promise 5: Returns how many rows the table has then")
    void insertTellsTheRows() {
        Run run = tables(2).make(x -> x.insert(1, 1, -1, -1));
        for (int number = 0; number < 20; number++) {
            int key = 7 * number % 20;
            run.changes("row " + number, number + 1, x -> x.insert(0, key, -1, -1));
        }
        run.make(x -> x.delete(0, 3), x -> x.delete(0, 4));
        run.changes("after deletions", 19, x -> x.insert(0, 50, -1, -1));
        run.still("the other table", 1, x -> x.rows(1));
    }

    @Holds("Promise 5: OUT_OF_RANGE (key; a value that is not -1 to 99, or not -1 for a column that there is not)")
    void insertOutOfRange() {
        Run run = columns(true, true);
        run.still("key below", OUT_OF_RANGE, x -> x.insert(1, -1, 1, 4));
        run.still("key above", OUT_OF_RANGE, x -> x.insert(1, 100, 1, 4));
        run.still("first below", OUT_OF_RANGE, x -> x.insert(1, 5, -2, 4));
        run.still("first above", OUT_OF_RANGE, x -> x.insert(1, 5, 100, 4));
        run.still("second below", OUT_OF_RANGE, x -> x.insert(1, 5, 1, -2));
        run.still("second above", OUT_OF_RANGE, x -> x.insert(1, 5, 1, 100));
        run.still("first without a column", OUT_OF_RANGE, x -> x.insert(0, 5, 1, -1));
        run.still("second without a column", OUT_OF_RANGE, x -> x.insert(0, 5, -1, 1));
        run.still("the key of the row itself is one above", OUT_OF_RANGE, x -> x.insert(1, 100, 1, 100));
        run.still("an existing row's key does not help", OUT_OF_RANGE, x -> x.insert(1, 4, 100, 4));
        run.changes("all in their ranges", 2, x -> x.insert(1, 99, 2, 99));
    }

    @Holds("Promise 5: DUPLICATE")
    void insertOfAKeyAgain() {
        Run run = columns(false, false).make(x -> x.insert(1, 0, -1, -1), x -> x.insert(1, 99, -1, -1));
        for (int key : new int[] {0, 4, 99}) {
            run.still("key " + key, DUPLICATE, x -> x.insert(1, key, 1, 4));
        }
        run.changes("the key of another table's row", 4, x -> x.insert(1, 1, 1, 4));
        run.changes("a key between", 5, x -> x.insert(1, 3, 1, 4));
        run.make(x -> x.delete(1, 0));
        run.changes("the key of a deleted row", 5, x -> x.insert(1, 0, 1, 4));
        run.make(SpreadingDeletes::undo);
        run.changes("the key of a row that undo took", 5, x -> x.insert(1, 0, 1, 4));
    }

    @Holds("Promise 5: FULL if the table has 20 rows")
    void insertIntoAFullTable() {
        Run run = filled(19).changes("the twentieth", 20, x -> x.insert(0, 99, -1, -1));
        run.still("the next one", FULL, x -> x.insert(0, 98, -1, -1));
        run.still("the least one", FULL, x -> x.insert(0, 19, -1, -1));
        run.still("one that is there", DUPLICATE, x -> x.insert(0, 18, -1, -1));
        run.make(x -> x.delete(0, 0));
        run.changes("room again", 20, x -> x.insert(0, 98, -1, -1));
        run.still("full again", FULL, x -> x.insert(0, 0, -1, -1));
    }

    @Holds("Promise 5: REQUIRED if a value is null that must not be (of both columns)")
    void insertOfNullThatMustNotBe() {
        Run first = columns(true, false);
        first.still("column 0", REQUIRED, x -> x.insert(1, 5, -1, 4));
        first.still("column 0, the other value is null, too", REQUIRED, x -> x.insert(1, 5, -1, -1));
        first.still("column 0, the other one has no parent", REQUIRED, x -> x.insert(1, 5, -1, 9));
        first.changes("column 1 may be null", 2, x -> x.insert(1, 5, 1, -1));
        Run second = columns(false, true);
        second.still("column 1", REQUIRED, x -> x.insert(1, 5, 1, -1));
        second.still("column 1, the other one has no parent", REQUIRED, x -> x.insert(1, 5, 9, -1));
        second.changes("column 0 may be null", 2, x -> x.insert(1, 5, -1, 4));
        Run both = columns(true, true);
        both.still("both", REQUIRED, x -> x.insert(1, 5, -1, -1));
        both.still("the first alone", REQUIRED, x -> x.insert(1, 5, -1, 4));
        both.still("the second alone", REQUIRED, x -> x.insert(1, 5, 1, -1));
        both.changes("neither", 2, x -> x.insert(1, 5, 1, 4));
        both.changes("a table without columns has nothing required", 3, x -> x.insert(0, 5, -1, -1));
    }

    @Holds("Promise 5: NO_PARENT if a value is the key of no row of the parent table (the key of the new row itself "
            + "counts as one of its table)")
    void insertWithoutAParent() {
        Run run = columns(false, false);
        run.still("column 0", NO_PARENT, x -> x.insert(1, 5, 3, 4));
        run.still("column 0, next below", NO_PARENT, x -> x.insert(1, 5, 0, 4));
        run.still("column 1", NO_PARENT, x -> x.insert(1, 5, 1, 3));
        run.still("column 1, next above", NO_PARENT, x -> x.insert(1, 6, 1, 5));
        run.still("both", NO_PARENT, x -> x.insert(1, 5, 9, 9));
        run.still("its own key in another table", NO_PARENT, x -> x.insert(1, 5, 5, 4));
        run.still("its own key in both", NO_PARENT, x -> x.insert(1, 5, 5, 5));
        run.changes("its own key in its table", 2, x -> x.insert(1, 5, 2, 5));
        run.still("is its own parent", 5, x -> x.value(1, 5, 1));
        run.make(x -> x.delete(1, 5));
        run.still("the key of a deleted row", NO_PARENT, x -> x.insert(1, 6, 1, 5));
        Run empty = tables(2).make(x -> x.addReference(1, 0, RESTRICT, false, -1));
        empty.still("an empty parent table", NO_PARENT, x -> x.insert(1, 0, 0, -1));
    }

    @Holds("Promise 6: Changes a value of a row")
    void aValueIsChanged() {
        Run run = columns(false, false).make(x -> x.insert(1, 3, 1, 4), x -> x.insert(1, 5, 1, 4));
        run.changes("column 0", 1, x -> x.update(1, 4, 0, 2));
        run.still("the value", 2, x -> x.value(1, 4, 0));
        run.still("the other column", 4, x -> x.value(1, 4, 1));
        run.changes("column 1", 4, x -> x.update(1, 4, 1, 5));
        run.still("the other value", 5, x -> x.value(1, 4, 1));
        run.still("the row below", 1, x -> x.value(1, 3, 0));
        run.still("the row above", 4, x -> x.value(1, 5, 1));
        run.still("children", 1, x -> x.children(0, 2));
        run.still("no change by a deletion", 0, x -> x.total(6));
    }

    @Holds("Promise 6: This is a change")
    void updateIsAChange() {
        Run run = columns(false, false);
        run.changes("to a key", 1, x -> x.update(1, 4, 0, 2));
        run.changes("to null", 2, x -> x.update(1, 4, 0, -1));
        run.still("to the same, it is none", NONE, x -> x.update(1, 4, 0, -1));
        run.still("refused, it is none", NO_PARENT, x -> x.update(1, 4, 0, 3));
        run.make(SpreadingDeletes::undo);
        run.still("undone", 2, x -> x.value(1, 4, 0));
    }

    @Holds("Promise 6: `value`: a key, or -1")
    void valuesOfUpdates() {
        Run run = tables(2).make(x -> x.addReference(1, 0, RESTRICT, false, -1), x -> x.insert(0, 0, -1, -1),
                x -> x.insert(0, 99, -1, -1), x -> x.insert(1, 1, -1, -1));
        run.changes("the least", -1, x -> x.update(1, 1, 0, 0));
        run.changes("the greatest", 0, x -> x.update(1, 1, 0, 99));
        run.changes("null", 99, x -> x.update(1, 1, 0, -1));
        run.still("below", OUT_OF_RANGE, x -> x.update(1, 1, 0, -2));
        run.still("above", OUT_OF_RANGE, x -> x.update(1, 1, 0, 100));
    }

    @Holds("Promise 6: Returns the previous value, -1 for null")
    void updateTellsThePreviousValue() {
        Run run = columns(false, false).make(x -> x.insert(0, 0, -1, -1), x -> x.insert(0, 99, -1, -1));
        int[] values = {0, 99, -1, 2, -1, 0};
        int previous = 1;
        for (int value : values) {
            run.changes("to " + value, previous, x -> x.update(1, 4, 0, value));
            previous = value;
        }
    }

    @Holds({"Promise 6: UNKNOWN (table, row or column)", "Promise 6: `table`: a table", "Promise 6: `key`: the key of a row",
        "Promise 6: `column`: a column of the table"})
    void updateOfNothing() {
        Run run = columns(false, false).make(x -> x.insert(1, 0, 1, 4), x -> x.insert(1, 99, 1, 4));
        for (int table : outside(0, 1)) {
            run.still("table " + table, UNKNOWN, x -> x.update(table, 4, 0, 2));
        }
        for (int key : outside(0, 99)) {
            run.still("key " + key, UNKNOWN, x -> x.update(1, key, 0, 2));
        }
        for (int column : outside(0, 1)) {
            run.still("column " + column, UNKNOWN, x -> x.update(1, 4, column, 2));
        }
        run.still("no row below", UNKNOWN, x -> x.update(1, 3, 0, 2));
        run.still("no row above", UNKNOWN, x -> x.update(1, 5, 0, 2));
        run.still("a row of another table", UNKNOWN, x -> x.update(1, 1, 0, 2));
        run.still("a table without columns", UNKNOWN, x -> x.update(0, 1, 0, -1));
        run.changes("the least row", 1, x -> x.update(1, 0, 0, 2));
        run.changes("the greatest row and column", 4, x -> x.update(1, 99, 1, 99));
        pair(RESTRICT, false, -1).make(x -> x.insert(1, 4, 1, -1)).still("the second of one column", UNKNOWN,
                x -> x.update(1, 4, 1, -1));
    }

    @Holds("Promise 6: OUT_OF_RANGE (value not -1 to 99)")
    void updateOutOfRange() {
        Run run = columns(true, false);
        for (int value : outside(-1, 99)) {
            run.still("column 0, value " + value, OUT_OF_RANGE, x -> x.update(1, 4, 0, value));
            run.still("column 1, value " + value, OUT_OF_RANGE, x -> x.update(1, 4, 1, value));
        }
        run.still("99 is none", NO_PARENT, x -> x.update(1, 4, 0, 99));
        run.changes("-1 is none", 4, x -> x.update(1, 4, 1, -1));
    }

    @Holds("Promise 6: REQUIRED")
    void updateToNullThatMustNotBe() {
        Run run = columns(true, false);
        run.still("column 0", REQUIRED, x -> x.update(1, 4, 0, -1));
        run.changes("column 1", 4, x -> x.update(1, 4, 1, -1));
        Run other = columns(false, true);
        other.still("column 1", REQUIRED, x -> x.update(1, 4, 1, -1));
        other.changes("column 0", 1, x -> x.update(1, 4, 0, -1));
    }

    @Holds("Promise 6: NO_PARENT")
    void updateWithoutAParent() {
        Run run = columns(false, false);
        run.still("column 0, below", NO_PARENT, x -> x.update(1, 4, 0, 0));
        run.still("column 0, above", NO_PARENT, x -> x.update(1, 4, 0, 3));
        run.still("column 0, its own key in another table", NO_PARENT, x -> x.update(1, 4, 0, 4));
        run.still("column 1, another table's key", NO_PARENT, x -> x.update(1, 4, 1, 1));
        run.still("column 1, the greatest key", NO_PARENT, x -> x.update(1, 4, 1, 99));
        run.changes("a parent", 1, x -> x.update(1, 4, 0, 2));
        run.make(x -> x.delete(0, 1));
        run.still("a parent that is deleted", NO_PARENT, x -> x.update(1, 4, 0, 1));
        run.make(x -> x.insert(1, 5, 2, 4));
        run.changes("itself", 4, x -> x.update(1, 5, 1, 5));
    }

    @Holds("Promise 6: NONE if it is the value already")
    void updateToTheSame() {
        Run run = columns(false, false);
        run.still("a key", NONE, x -> x.update(1, 4, 0, 1));
        run.still("itself", NONE, x -> x.update(1, 4, 1, 4));
        run.make(x -> x.update(1, 4, 0, -1));
        run.still("null", NONE, x -> x.update(1, 4, 0, -1));
        run.changes("another one", -1, x -> x.update(1, 4, 0, 2));
        run.still("the new one", NONE, x -> x.update(1, 4, 0, 2));
        Run required = columns(true, true);
        required.still("a key that must be", NONE, x -> x.update(1, 4, 0, 1));
    }
}
