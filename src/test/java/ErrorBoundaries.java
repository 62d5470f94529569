/** The boundary cases of the errors: the terms. */
final class ErrorBoundaries extends Boundaries {
    ErrorBoundaries(Check check) {
        super(check);
    }

    /** Rows 0:0 to 0:19, whose column 0 points to table 1, which is empty, and must not be null. */
    private Run fullChild() {
        Run run = tables(2).make(x -> x.addReference(0, 0, NO_ACTION, true, -1),
                x -> x.addReference(0, 1, RESTRICT, false, -1));
        for (int row = 0; row < 20; row++) {
            int key = row;
            run.make(x -> x.insert(0, key, key, -1));
        }
        return run;
    }

    @Holds("Terms, errors: Errors are reported by the constants below")
    void theConstants() {
        check().due("UNKNOWN", SpreadingDeletes.UNKNOWN, -2);
        check().due("OUT_OF_RANGE", SpreadingDeletes.OUT_OF_RANGE, -3);
        check().due("FULL", SpreadingDeletes.FULL, -4);
        check().due("DUPLICATE", SpreadingDeletes.DUPLICATE, -5);
        check().due("REQUIRED", SpreadingDeletes.REQUIRED, -6);
        check().due("NO_PARENT", SpreadingDeletes.NO_PARENT, -7);
        check().due("NOT_POSSIBLE", SpreadingDeletes.NOT_POSSIBLE, -8);
        check().due("NONE", SpreadingDeletes.NONE, -9);
    }

    @Holds("Terms, errors: If several errors apply, the one that stands first in the @return line is returned")
    void theFirstOfSeveralErrors() {
        Run full = fullChild();
        full.still("addReference: all four", UNKNOWN, x -> x.addReference(0, 2, 5, true, 100));
        full.still("addReference: all but the first", OUT_OF_RANGE, x -> x.addReference(0, 1, 5, true, -1));
        full.still("addReference: all but the first, by the default", OUT_OF_RANGE,
                x -> x.addReference(0, 1, 0, true, 100));
        full.still("addReference: the last two", FULL, x -> x.addReference(0, 1, 0, true, -1));
        full.still("setRule: both", UNKNOWN, x -> x.setRule(2, 5));
        full.still("insert: table and others", UNKNOWN, x -> x.insert(2, 100, 100, 100));
        full.still("insert: range, duplicate, full", OUT_OF_RANGE, x -> x.insert(0, 5, 100, -1));
        full.still("insert: range, full, required", OUT_OF_RANGE, x -> x.insert(0, 50, -1, 100));
        full.still("insert: duplicate, full, required, no parent", DUPLICATE, x -> x.insert(0, 5, -1, 5));
        full.still("insert: full, required, no parent", FULL, x -> x.insert(0, 50, -1, 5));
        full.make(x -> x.delete(0, 19));
        full.still("insert: required, no parent", REQUIRED, x -> x.insert(0, 50, -1, 5));
        full.still("insert: no parent", NO_PARENT, x -> x.insert(0, 50, 50, 5));
        full.still("update: row and range", UNKNOWN, x -> x.update(0, 19, 0, 100));
        full.still("update: column and range", UNKNOWN, x -> x.update(0, 5, 2, 100));
        full.still("update: range", OUT_OF_RANGE, x -> x.update(0, 5, 0, -2));
        full.still("keyAt: table and rank", UNKNOWN, x -> x.keyAt(2, -1));
        full.still("reference: both", UNKNOWN, x -> x.reference(2, 6));
        full.still("gathered: row and index", UNKNOWN, x -> x.gathered(0, 19, -1));
        full.still("gathered: table and index", UNKNOWN, x -> x.gathered(2, 0, -1));
    }

    @Holds("Terms, errors: NONE is not an error; it is returned only if no error applies")
    void noneBehindTheErrors() {
        Run run = busy();
        run.still("setRule: NONE", NONE, x -> x.setRule(0, RESTRICT));
        run.still("setRule: no reference", UNKNOWN, x -> x.setRule(2, RESTRICT));
        run.still("update: NONE", NONE, x -> x.update(1, 3, 0, 1));
        run.still("update: no column", UNKNOWN, x -> x.update(0, 1, 0, -1));
        run.still("keyAt: NONE", NONE, x -> x.keyAt(0, 2));
        run.still("keyAt: no table", UNKNOWN, x -> x.keyAt(2, 2));
        run.still("keyAt: negative", OUT_OF_RANGE, x -> x.keyAt(0, -1));
        run.still("deleted: NONE", NONE, x -> x.deleted(1));
        run().still("deleted: NONE, no deletion yet", NONE, x -> x.deleted(0));
        run().still("deleted: negative, no deletion yet", OUT_OF_RANGE, x -> x.deleted(-1));
        run.still("gathered: NONE", NONE, x -> x.gathered(0, 1, 1));
        run.still("gathered: negative", OUT_OF_RANGE, x -> x.gathered(0, 1, -1));
        run.still("gathered: no row", UNKNOWN, x -> x.gathered(0, 3, 1));
        run.still("blocking: NONE", NONE, x -> x.blocking(0, 2));
        run.still("blocking: no row", UNKNOWN, x -> x.blocking(0, 3));
        run.text("@1:3.0=1;@1:3.1=4").changes("perform: NONE is no error", 2, SpreadingDeletes::perform);
    }

    @Holds("Terms, errors: A method that returns an error or NONE changes nothing")
    void errorsChangeNothing() {
        Run run = busy();
        run.still("addReference", UNKNOWN, x -> x.addReference(2, 0, 0, false, -1));
        run.still("addReference", OUT_OF_RANGE, x -> x.addReference(0, 0, 5, false, -1));
        run.still("addReference", NOT_POSSIBLE, x -> x.addReference(0, 0, 0, false, -1));
        run.still("addReference", FULL, x -> x.addReference(1, 0, 0, false, -1));
        run.still("setRule", UNKNOWN, x -> x.setRule(2, 0));
        run.still("setRule", OUT_OF_RANGE, x -> x.setRule(0, 5));
        run.still("setRule", NONE, x -> x.setRule(1, SET_NULL));
        run.still("insert", UNKNOWN, x -> x.insert(2, 0, -1, -1));
        run.still("insert", OUT_OF_RANGE, x -> x.insert(0, 100, -1, -1));
        run.still("insert", DUPLICATE, x -> x.insert(0, 2, -1, -1));
        run.still("insert", REQUIRED, x -> x.insert(1, 5, -1, -1));
        run.still("insert", NO_PARENT, x -> x.insert(1, 5, 9, -1));
        run.still("update", UNKNOWN, x -> x.update(0, 1, 0, -1));
        run.still("update", OUT_OF_RANGE, x -> x.update(1, 3, 0, 100));
        run.still("update", REQUIRED, x -> x.update(1, 3, 0, -1));
        run.still("update", NO_PARENT, x -> x.update(1, 3, 0, 9));
        run.still("update", NONE, x -> x.update(1, 3, 1, 4));
        run.still("delete", UNKNOWN, x -> x.delete(0, 9));
        run.still("delete", NOT_POSSIBLE, x -> x.delete(0, 1));
        run.text("+0:8;-0:1").still("perform", NOT_POSSIBLE, SpreadingDeletes::perform);
        run.text("+0:8;-0:|").still("perform", -108, SpreadingDeletes::perform);
        tables(6).still("addTable", FULL, SpreadingDeletes::addTable);
        fullChild().still("insert", FULL, x -> x.insert(0, 50, 50, -1));
        Run text = busy().text(".".repeat(60));
        text.still("type", FULL, x -> x.type('+'));
        tables(1).make(SpreadingDeletes::undo).still("undo", NONE, SpreadingDeletes::undo);
        filled(3).still("restore", NONE, SpreadingDeletes::restore);
    }

    @Holds("Terms, errors: The constants: `UNKNOWN = -2`: There is no such table, reference, column or row")
    void unknown() {
        Run run = busy();
        run.still("a table", -2, x -> x.rows(2));
        run.still("no such table", 2, x -> x.rows(1));
        run.still("a reference", -2, x -> x.reference(2, 0));
        run.still("there is one", 1, x -> x.reference(1, 0));
        run.still("a column", -2, x -> x.value(1, 3, 2));
        run.still("there is a column", 4, x -> x.value(1, 3, 1));
        run.still("a row", -2, x -> x.value(1, 5, 0));
        run.still("there is a row", 1, x -> x.value(1, 4, 0));
        run.still("a row that is deleted", -2, x -> x.reason(0, 7));
    }

    @Holds("Terms, errors: `OUT_OF_RANGE = -3`: Another argument is out of its range")
    void outOfRange() {
        Run run = busy();
        run.still("a rule", -3, x -> x.setRule(0, 5));
        run.still("a default", -3, x -> x.addReference(0, 0, 0, false, 100));
        run.still("a key", -3, x -> x.insert(0, 100, -1, -1));
        run.still("a key of a row, which there is not", -2, x -> x.delete(0, 100));
        run.still("a value", -3, x -> x.update(1, 3, 0, 100));
        run.still("a rank", -3, x -> x.keyAt(0, -1));
        run.still("an index", -3, x -> x.deleted(-1));
        run.still("what", -3, x -> x.total(9));
    }

    @Holds("Terms, errors: `FULL = -4`: There is no more room")
    void full() {
        tables(6).still("of tables", -4, SpreadingDeletes::addTable);
        filled(20).still("of rows", -4, x -> x.insert(0, 20, -1, -1));
        busy().still("of columns", -4, x -> x.addReference(1, 0, 0, false, -1));
        run().text("x".repeat(60)).still("of characters", -4, x -> x.type('x'));
    }

    @Holds("Terms, errors: `DUPLICATE = -5`: There is a row with this key already")
    void duplicate() {
        Run run = busy();
        run.still("there is", -5, x -> x.insert(0, 1, -1, -1));
        run.changes("there is not", 3, x -> x.insert(0, 3, -1, -1));
        run.still("there is now", -5, x -> x.insert(0, 3, -1, -1));
    }

    @Holds("Terms, errors: `REQUIRED = -6`: A value is null that must not be null")
    void required() {
        Run run = busy();
        run.still("inserted", -6, x -> x.insert(1, 5, -1, 3));
        run.still("updated", -6, x -> x.update(1, 3, 0, -1));
        run.changes("may be null", 4, x -> x.update(1, 3, 1, -1));
    }

    @Holds("Terms, errors: `NO_PARENT = -7`: A value is the key of no row of the parent table")
    void noParent() {
        Run run = busy();
        run.still("inserted", -7, x -> x.insert(1, 5, 3, 3));
        run.still("updated", -7, x -> x.update(1, 3, 1, 1));
        run.changes("of the parent table", 4, x -> x.update(1, 3, 1, 3));
    }

    @Holds("Terms, errors: `NOT_POSSIBLE = -8`: This is not possible in the present state")
    void notPossible() {
        Run run = busy();
        run.still("a refused deletion", -8, x -> x.delete(0, 1));
        run.still("what it would change", -8, x -> x.wouldChange(0, 1));
        run.still("a reference of rows", -8, x -> x.addReference(0, 1, 0, false, -1));
        run.make(x -> x.delete(1, 3), x -> x.delete(1, 4));
        run.changes("possible now", 1, x -> x.delete(0, 1));
    }

    @Holds("Terms, errors: `NONE = -9`: There is no such thing; this is not an error")
    void none() {
        Run run = busy();
        run.still("a key", -9, x -> x.keyAt(0, 2));
        run.still("a deleted row", -9, x -> x.deleted(1));
        run.still("a gathered row", -9, x -> x.gathered(0, 2, 1));
        run.still("a blocking row", -9, x -> x.blocking(0, 2));
        run.still("another value", -9, x -> x.update(1, 3, 0, 1));
        run.still("another rule", -9, x -> x.setRule(0, RESTRICT));
        run().still("a state", -9, SpreadingDeletes::undo);
        run().still("a snapshot", -9, SpreadingDeletes::restore);
    }
}
