/** The boundary cases of deletions: the terms, and the promise 7. */
final class DeleteBoundaries extends Boundaries {
    DeleteBoundaries(Check check) {
        super(check);
    }

    /** Looks at the whole list of gathered rows, and behind its end. */
    private static void gathers(Run run, int table, int key, int... rows) {
        for (int place = 0; place < rows.length; place++) {
            int index = place;
            run.still("gathered with " + table + ":" + key + " at " + index, rows[index],
                    x -> x.gathered(table, key, index));
        }
        run.still("gathered with " + table + ":" + key + " behind the last", NONE,
                x -> x.gathered(table, key, rows.length));
    }

    private static void refuses(Run run, int table, int key, int reason, int blocking) {
        run.still("reason for " + table + ":" + key, reason, x -> x.reason(table, key));
        run.still("blocking " + table + ":" + key, blocking, x -> x.blocking(table, key));
        run.still("deletion of " + table + ":" + key, NOT_POSSIBLE, x -> x.delete(table, key));
    }

    private static void allows(Run run, int table, int key) {
        run.still("reason for " + table + ":" + key, 0, x -> x.reason(table, key));
        run.still("blocking " + table + ":" + key, NONE, x -> x.blocking(table, key));
        run.copy().changes("deletion of " + table + ":" + key, run.answer(x -> rowsGathered(x, table, key)),
                x -> x.delete(table, key));
    }

    private static int rowsGathered(SpreadingDeletes x, int table, int key) {
        int count = 0;
        while (count < 121 && x.gathered(table, key, count) != NONE) {
            count++;
        }
        return count;
    }

    /** Row 0:1 with the child 1:3 by the column 0, which is gathered, and by the column 1, too. */
    private Run gatheredChild(int rule) {
        return tables(2).make(x -> x.addReference(1, 0, CASCADE, false, -1),
                x -> x.addReference(1, 0, rule, true, 99), x -> x.insert(0, 1, -1, -1), x -> x.insert(1, 3, 1, 1));
    }

    @Holds("Terms, deleting: To delete a row, the rows that are deleted with it are found first:")
    void rowsAreFoundAheadOfTheRefusal() {
        // Row 1:3 is found by the reference 1, but asked for by the reference 0.
        Run run = tables(2).make(x -> x.addReference(1, 0, NO_ACTION, false, -1),
                x -> x.addReference(1, 0, CASCADE, false, -1), x -> x.insert(0, 1, -1, -1),
                x -> x.insert(1, 3, 1, 1));
        gathers(run, 0, 1, 103, 1);
        allows(run, 0, 1);
        run.make(x -> x.insert(1, 4, 1, -1));
        refuses(run, 0, 1, 2, 104);
    }

    @Holds("Terms, deleting: To gather a row means: if it is gathered already, or its gathering has begun, nothing happens")
    void noRowIsGatheredTwice() {
        // 2:5 is a child of 1:3 and of 1:4, which are both children of 0:1.
        Run twoWays = tables(3).make(x -> x.addReference(1, 0, CASCADE, false, -1),
                x -> x.addReference(2, 1, CASCADE, false, -1), x -> x.addReference(2, 1, CASCADE, false, -1),
                x -> x.insert(0, 1, -1, -1), x -> x.insert(1, 3, 1, -1), x -> x.insert(1, 4, 1, -1),
                x -> x.insert(2, 5, 4, 3));
        gathers(twoWays, 0, 1, 205, 103, 104, 1);
        allows(twoWays, 0, 1);
        Run bothColumns = gatheredChild(CASCADE);
        gathers(bothColumns, 0, 1, 103, 1);
        Run itself = loops(CASCADE, 2);
        gathers(itself, 0, 1, 1);
        allows(itself, 0, 1);
        Run ring = loops(CASCADE, 2).make(x -> x.update(0, 1, 0, 2), x -> x.update(0, 2, 0, 1));
        gathers(ring, 0, 1, 2, 1);
        gathers(ring, 0, 2, 1, 2);
        allows(ring, 0, 1);
    }

    @Holds("Terms, deleting: Otherwise, for each reference with the rule cascade that points to its table, in the order of "
            + "their numbers, all children of the row by this reference are gathered, by rising keys; then the row itself "
            + "is put at the end of the list of gathered rows")
    void orderOfGathering() {
        Run run = tables(3).make(x -> x.addReference(2, 0, CASCADE, false, -1),
                x -> x.addReference(1, 0, CASCADE, false, -1), x -> x.addReference(2, 1, CASCADE, false, -1),
                x -> x.insert(0, 1, -1, -1), x -> x.insert(1, 99, 1, -1), x -> x.insert(1, 0, 1, -1),
                x -> x.insert(2, 99, 1, 0), x -> x.insert(2, 0, 1, -1), x -> x.insert(2, 50, -1, 99),
                x -> x.insert(2, 40, -1, 0));
        gathers(run, 0, 1, 200, 299, 240, 100, 250, 199, 1);
        gathers(run.copy().make(x -> x.setRule(0, SET_NULL)), 0, 1, 240, 299, 100, 250, 199, 1);
        gathers(run.copy().make(x -> x.setRule(2, RESTRICT)), 0, 1, 200, 299, 100, 199, 1);
        gathers(run.copy().make(x -> x.setRule(1, NO_ACTION)), 0, 1, 200, 299, 1);
        gathers(run.copy().make(x -> x.setRule(1, SET_DEFAULT), x -> x.setRule(0, RESTRICT)), 0, 1, 1);
    }

    @Holds("Terms, deleting: The row that is to be deleted is gathered")
    void theRowItselfIsGathered() {
        Run alone = filled(2);
        gathers(alone, 0, 0, 0);
        gathers(alone, 0, 1, 1);
        alone.changes("deletion", 1, x -> x.delete(0, 0));
        alone.still("deleted", 0, x -> x.deleted(0));
        alone.still("the other row stays", 1, x -> x.keyAt(0, 0));
        for (int rule = 0; rule <= 4; rule++) {
            Run run = pair(rule, false, -1).make(SpreadingDeletes::addTable);
            gathers(run, 0, 2, 2);
        }
    }

    @Holds("Terms, deleting: The list of gathered rows tells which rows are deleted, and in which order (children ahead of "
            + "their parents, as far as there are no rings)")
    void orderOfDeletion() {
        Run run = tables(3).make(x -> x.addReference(1, 0, CASCADE, false, -1),
                x -> x.addReference(2, 1, CASCADE, false, -1), x -> x.insert(0, 1, -1, -1), x -> x.insert(0, 2, -1, -1),
                x -> x.insert(1, 3, 1, -1), x -> x.insert(1, 4, 2, -1), x -> x.insert(2, 5, 3, -1),
                x -> x.insert(2, 6, 4, -1));
        run.changes("a chain", 3, x -> x.delete(0, 1));
        deletes(run, 205, 103, 1);
        run.still("the other chain", 3, x -> x.total(2));
        run.still("its end", 4, x -> x.value(2, 6, 0));
        Run ring = loops(CASCADE, 3).make(x -> x.update(0, 1, 0, 2), x -> x.update(0, 2, 0, 3), x -> x.update(0, 3, 0, 1));
        ring.changes("a ring", 3, x -> x.delete(0, 2));
        deletes(ring, 3, 1, 2);
        ring.still("nothing is left", 0, x -> x.total(2));
    }

    private static void deletes(Run run, int... rows) {
        for (int place = 0; place < rows.length; place++) {
            int index = place;
            run.still("deleted at " + index, rows[index], x -> x.deleted(index));
        }
        run.still("deleted behind the last", NONE, x -> x.deleted(rows.length));
    }

    @Holds("Terms, deleting: The references are gone through in the order of their numbers, of each the rows of its child "
            + "table by rising keys")
    void orderOfTheLook() {
        Run run = tables(3).make(x -> x.addReference(2, 0, NO_ACTION, false, -1),
                x -> x.addReference(1, 0, RESTRICT, false, -1), x -> x.addReference(1, 0, SET_NULL, true, -1),
                x -> x.insert(0, 1, -1, -1), x -> x.insert(0, 2, -1, -1), x -> x.insert(1, 0, 2, 1));
        refuses(run, 0, 1, 3, 100);
        run.make(x -> x.insert(1, 99, 1, 2));
        refuses(run, 0, 1, 1, 199);
        run.make(x -> x.insert(1, 98, 1, 2));
        refuses(run, 0, 1, 1, 198);
        run.make(x -> x.insert(2, 99, 1, -1));
        refuses(run, 0, 1, 2, 299);
        run.make(x -> x.insert(2, 0, 1, -1));
        refuses(run, 0, 1, 2, 200);
        run.make(x -> x.delete(2, 0), x -> x.delete(2, 99), x -> x.delete(1, 98), x -> x.delete(1, 99),
                x -> x.delete(1, 0));
        allows(run, 0, 1);
    }

    @Holds("Terms, deleting: restrict: the deletion is refused for the reason 1, unless the child is its own parent; it does "
            + "not matter whether the child is gathered, too")
    void restrict() {
        Run child = pair(RESTRICT, false, -1).make(x -> x.insert(1, 3, 1, -1));
        refuses(child, 0, 1, 1, 103);
        allows(child, 0, 2);
        allows(child, 1, 3);
        allows(loops(RESTRICT, 1), 0, 1);
        Run two = loops(RESTRICT, 2).make(x -> x.update(0, 1, 0, 2));
        refuses(two, 0, 2, 1, 1);
        allows(two, 0, 1);
        refuses(gatheredChild(RESTRICT), 0, 1, 1, 103);
        Run sameKey = tables(2).make(x -> x.addReference(1, 0, RESTRICT, false, -1), x -> x.insert(0, 1, -1, -1),
                x -> x.insert(1, 1, 1, -1));
        refuses(sameKey, 0, 1, 1, 101);
        // Row 0:2 is its own parent by the column 0, but the child of 0:1 by the column 1.
        Run byTheOther = tables(1).make(x -> x.addReference(0, 0, RESTRICT, false, -1),
                x -> x.addReference(0, 0, RESTRICT, false, -1), x -> x.insert(0, 1, -1, -1), x -> x.insert(0, 2, 2, 1));
        refuses(byTheOther, 0, 1, 1, 2);
        allows(byTheOther, 0, 2);
    }

    @Holds("Terms, deleting: with each other rule a child that is gathered does not matter")
    void gatheredChildren() {
        for (int rule = 1; rule <= 4; rule++) {
            Run run = gatheredChild(rule);
            allows(run, 0, 1);
            run.still("nothing to change, rule " + rule, 0, x -> x.wouldChange(0, 1));
            run.changes("deletion, rule " + rule, 2, x -> x.delete(0, 1));
            run.still("nothing was changed, rule " + rule, 0, x -> x.total(6));
            allows(loops(rule, 1), 0, 1);
        }
        refuses(gatheredChild(NO_ACTION).make(x -> x.setRule(0, SET_NULL)), 0, 1, 2, 103);
        refuses(gatheredChild(SET_NULL).make(x -> x.setRule(0, SET_NULL)), 0, 1, 3, 103);
        refuses(gatheredChild(SET_DEFAULT).make(x -> x.setRule(0, SET_NULL)), 0, 1, 4, 103);
    }

    @Holds("Terms, deleting: no action: the deletion is refused for the reason 2")
    void noAction() {
        Run run = pair(NO_ACTION, false, -1).make(x -> x.insert(1, 3, 1, -1));
        refuses(run, 0, 1, 2, 103);
        allows(run, 0, 2);
        allows(run, 1, 3);
        refuses(pair(NO_ACTION, true, 2).make(x -> x.insert(1, 0, 1, -1)), 0, 1, 2, 100);
        run.make(x -> x.update(1, 3, 0, 2));
        allows(run, 0, 1);
        refuses(run, 0, 2, 2, 103);
        allows(run.make(x -> x.update(1, 3, 0, -1)), 0, 2);
    }

    @Holds("Terms, deleting: cascade: (such a child is always gathered)")
    void cascade() {
        for (int standard : new int[] {-1, 2, 99}) {
            Run run = pair(CASCADE, true, standard).make(x -> x.insert(1, 3, 1, -1), x -> x.insert(1, 4, 2, -1));
            gathers(run, 0, 1, 103, 1);
            allows(run, 0, 1);
            run.changes("deletion", 2, x -> x.delete(0, 1));
            run.still("no value changed", 0, x -> x.total(6));
            run.still("the other child stays", 2, x -> x.value(1, 4, 0));
        }
    }

    @Holds("Terms, deleting: set null: if the reference is required, the deletion is refused for the reason 3; otherwise "
            + "the value will be null")
    void setNull() {
        Run required = pair(SET_NULL, true, 2).make(x -> x.insert(1, 3, 1, -1));
        refuses(required, 0, 1, 3, 103);
        allows(required, 0, 2);
        Run free = pair(SET_NULL, false, 2).make(x -> x.insert(1, 3, 1, -1), x -> x.insert(1, 4, 2, -1));
        allows(free, 0, 1);
        free.changes("deletion", 1, x -> x.delete(0, 1));
        free.still("null", -1, x -> x.value(1, 3, 0));
        free.still("another parent's child", 2, x -> x.value(1, 4, 0));
        free.changes("the other one", 1, x -> x.delete(0, 2));
        free.still("null, too", -1, x -> x.value(1, 4, 0));
        free.still("changed in all", 2, x -> x.total(6));
    }

    @Holds("Terms, deleting: set default: if the default is null, it is as with set null; otherwise, if the parent table "
            + "has no row with the default as its key, or if that row is gathered, the deletion is refused for the reason 4; "
            + "otherwise the value will be the default")
    void setDefault() {
        Run free = pair(SET_DEFAULT, false, -1).make(x -> x.insert(1, 3, 1, -1));
        allows(free, 0, 1);
        free.changes("deletion", 1, x -> x.delete(0, 1));
        free.still("null", -1, x -> x.value(1, 3, 0));
        refuses(pair(SET_DEFAULT, true, -1).make(x -> x.insert(1, 3, 1, -1)), 0, 1, 3, 103);
        for (int number = 0; number < 2; number++) {
            boolean required = number == 1;
            Run there = pair(SET_DEFAULT, required, 2).make(x -> x.insert(1, 3, 1, -1));
            allows(there, 0, 1);
            there.changes("deletion", 1, x -> x.delete(0, 1));
            there.still("the default", 2, x -> x.value(1, 3, 0));
            refuses(there, 0, 2, 4, 103);
            Run missing = pair(SET_DEFAULT, required, 0).make(x -> x.insert(1, 3, 1, -1), x -> x.insert(1, 0, 2, -1));
            refuses(missing, 0, 1, 4, 103);
            allows(missing.make(x -> x.insert(0, 0, -1, -1)), 0, 1);
        }
        refuses(pair(SET_DEFAULT, false, 3).make(x -> x.insert(1, 3, 1, -1)), 0, 1, 4, 103);
    }

    @Holds("Terms, deleting: The first reason that is found is the reason, and the child row at which it is found is the "
            + "blocking row")
    void theFirstReason() {
        Run run = tables(3).make(x -> x.addReference(1, 0, SET_DEFAULT, false, 9),
                x -> x.addReference(1, 0, SET_NULL, true, -1), x -> x.addReference(2, 0, NO_ACTION, false, -1),
                x -> x.addReference(2, 0, RESTRICT, false, -1), x -> x.insert(0, 1, -1, -1),
                x -> x.insert(0, 2, -1, -1), x -> x.insert(1, 5, 1, 1), x -> x.insert(1, 6, 1, 1),
                x -> x.insert(2, 3, 1, 1), x -> x.insert(2, 4, 1, 1));
        refuses(run, 0, 1, 4, 105);
        run.make(x -> x.update(1, 5, 0, 2));
        refuses(run, 0, 1, 4, 106);
        run.make(x -> x.update(1, 6, 0, -1));
        refuses(run, 0, 1, 3, 105);
        run.make(x -> x.delete(1, 5), x -> x.delete(1, 6));
        refuses(run, 0, 1, 2, 203);
        run.make(x -> x.setRule(2, SET_NULL));
        refuses(run, 0, 1, 1, 203);
        run.make(x -> x.update(2, 3, 1, 2));
        refuses(run, 0, 1, 1, 204);
        run.make(x -> x.update(2, 4, 1, -1));
        allows(run, 0, 1);
    }

    @Holds("Terms, deleting: If nothing refuses it, the gathered rows are deleted, and the values are changed as told")
    void whatADeletionDoes() {
        Run run = tables(3).make(x -> x.addReference(1, 0, CASCADE, false, -1),
                x -> x.addReference(2, 0, SET_NULL, false, -1), x -> x.addReference(2, 1, SET_DEFAULT, false, 4),
                x -> x.insert(0, 1, -1, -1), x -> x.insert(0, 2, -1, -1), x -> x.insert(1, 3, 1, -1),
                x -> x.insert(1, 4, 2, -1), x -> x.insert(2, 5, 1, 3), x -> x.insert(2, 6, 2, 4));
        run.changes("deletion", 2, x -> x.delete(0, 1));
        run.still("rows of 0", 1, x -> x.rows(0));
        run.still("rows of 1", 1, x -> x.rows(1));
        run.still("rows of 2", 2, x -> x.rows(2));
        run.still("2:5 by the column 0", -1, x -> x.value(2, 5, 0));
        run.still("2:5 by the column 1", 4, x -> x.value(2, 5, 1));
        run.still("2:6 by the column 0", 2, x -> x.value(2, 6, 0));
        run.still("2:6 by the column 1", 4, x -> x.value(2, 6, 1));
        run.still("changed", 2, x -> x.total(6));
        run.still("the default goes, too: nothing at all is done", NOT_POSSIBLE, x -> x.delete(0, 2));
        run.make(x -> x.setRule(1, NO_ACTION));
        run.still("the first column refuses", NOT_POSSIBLE, x -> x.delete(0, 2));
    }

    @Holds("Promise 7: Deletes a row, as described")
    void aRowIsDeleted() {
        Run run = filled(20).changes("in between", 1, x -> x.delete(0, 10));
        run.still("nineteen are left", 19, x -> x.rows(0));
        run.still("the one below", 9, x -> x.keyAt(0, 9));
        run.still("the one above", 11, x -> x.keyAt(0, 10));
        run.changes("the least", 1, x -> x.delete(0, 0));
        run.changes("the greatest", 1, x -> x.delete(0, 19));
        run.still("the least now", 1, x -> x.keyAt(0, 0));
        run.still("the greatest now", 18, x -> x.keyAt(0, 16));
        run.still("no more", NONE, x -> x.keyAt(0, 17));
        Run only = filled(1).changes("the only one", 1, x -> x.delete(0, 0));
        only.still("empty", 0, x -> x.rows(0));
        only.still("again", UNKNOWN, x -> x.delete(0, 0));
    }

    @Holds("Promise 7: This is a change")
    void deleteIsAChange() {
        Run run = pair(SET_NULL, false, -1).make(x -> x.insert(1, 3, 1, -1));
        run.changes("with a value that changes", 1, x -> x.delete(0, 1));
        run.changes("alone", 1, x -> x.delete(1, 3));
        run.still("of no row, it is none", UNKNOWN, x -> x.delete(1, 3));
        run.make(SpreadingDeletes::undo, SpreadingDeletes::undo);
        run.still("the value is back", 1, x -> x.value(1, 3, 0));
        run.still("no deletion so far", NONE, x -> x.deleted(0));
    }

    @Holds("Promise 7: Returns how many rows are deleted")
    void deleteTellsTheRows() {
        filled(1).changes("one", 1, x -> x.delete(0, 0));
        Run two = pair(CASCADE, false, -1).make(x -> x.insert(1, 3, 1, -1));
        two.copy().changes("two", 2, x -> x.delete(0, 1));
        two.copy().changes("a child alone", 1, x -> x.delete(1, 3));
        two.copy().changes("without a child", 1, x -> x.delete(0, 2));
        Run all = tables(6);
        for (int table = 0; table < 6; table++) {
            int child = table;
            all.make(x -> x.addReference(child, 0, CASCADE, false, -1));
        }
        for (int row = 0; row < 120; row++) {
            int table = row / 20;
            int key = row % 20;
            all.make(x -> x.insert(table, key, 0, -1));
        }
        all.copy().changes("all 120", 120, x -> x.delete(0, 0));
        all.copy().changes("one of 120", 1, x -> x.delete(5, 19));
    }

    @Holds({"Promise 7: UNKNOWN", "Promise 7: `table`: a table", "Promise 7: `key`: the key of a row"})
    void deleteOfNoRow() {
        run().still("no table at all", UNKNOWN, x -> x.delete(0, 0));
        Run run = tables(2).make(x -> x.insert(0, 0, -1, -1), x -> x.insert(0, 99, -1, -1), x -> x.insert(1, 5, -1, -1));
        for (int table : outside(0, 1)) {
            run.still("table " + table, UNKNOWN, x -> x.delete(table, 0));
        }
        for (int key : outside(0, 99)) {
            run.still("key " + key, UNKNOWN, x -> x.delete(0, key));
        }
        run.still("a row of the other table", UNKNOWN, x -> x.delete(0, 5));
        run.still("the key of the other table's row, counted from here", UNKNOWN, x -> x.delete(0, 105));
        run.still("next to the least", UNKNOWN, x -> x.delete(0, 1));
        run.still("next to the greatest", UNKNOWN, x -> x.delete(0, 98));
        run.changes("the least", 1, x -> x.delete(0, 0));
        run.changes("the greatest", 1, x -> x.delete(0, 99));
        run.still("an empty table", UNKNOWN, x -> x.delete(0, 99));
    }

    @Holds("Promise 7: NOT_POSSIBLE if the deletion is refused")
    void aRefusedDeletion() {
        Run busy = busy();
        busy.still("restrict", NOT_POSSIBLE, x -> x.delete(0, 1));
        busy.changes("without children", 1, x -> x.delete(0, 2));
        // The first reference would set null ahead of the second one, which refuses.
        Run half = tables(2).make(x -> x.addReference(1, 0, SET_NULL, false, -1),
                x -> x.addReference(1, 0, NO_ACTION, false, -1), x -> x.insert(0, 1, -1, -1), x -> x.insert(1, 3, 1, 1));
        half.still("no value is changed", NOT_POSSIBLE, x -> x.delete(0, 1));
        half.still("the value", 1, x -> x.value(1, 3, 0));
        half.make(x -> x.update(1, 3, 1, -1));
        half.changes("not refused", 1, x -> x.delete(0, 1));
        // The child would be gathered ahead of the grandchild that refuses.
        Run deep = tables(3).make(x -> x.addReference(1, 0, CASCADE, false, -1),
                x -> x.addReference(2, 1, RESTRICT, false, -1), x -> x.insert(0, 1, -1, -1), x -> x.insert(1, 3, 1, -1),
                x -> x.insert(1, 4, 1, -1), x -> x.insert(2, 5, 4, -1));
        refuses(deep, 0, 1, 1, 205);
        deep.changes("the child that has none", 1, x -> x.delete(1, 3));
        deep.make(x -> x.delete(2, 5));
        deep.changes("not refused any more", 2, x -> x.delete(0, 1));
    }
}
