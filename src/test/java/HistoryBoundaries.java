import java.util.List;

/** The boundary cases of the history and the snapshot: the terms, and the promises 11 to 13. */
final class HistoryBoundaries extends Boundaries {
    HistoryBoundaries(Check check) {
        super(check);
    }

    /** One of each call that is a change, in an order in which none of them is refused. */
    private static List<Player.Call> eachChange() {
        return List.of(SpreadingDeletes::addTable, SpreadingDeletes::addTable,
                x -> x.addReference(1, 0, SET_NULL, false, -1), x -> x.setRule(0, CASCADE),
                x -> x.insert(0, 8, -1, -1), x -> x.insert(1, 3, -1, -1), x -> x.update(1, 3, 0, 8),
                x -> x.delete(0, 8), SpreadingDeletes::perform, SpreadingDeletes::restore);
    }

    private Run changing(int count) {
        Run run = run().make(SpreadingDeletes::keep).text("+0:8");
        for (Player.Call change : eachChange().subList(0, count)) {
            run.make(change);
        }
        return run;
    }

    @Holds("Terms, history: A history of at most 4 states is kept")
    void fourStates() {
        Run run = run();
        for (int number = 1; number <= 6; number++) {
            run.make(SpreadingDeletes::addTable);
            run.still("states after " + number, Math.min(4, number), x -> x.total(7));
        }
        for (int left = 3; left >= 0; left--) {
            int tables = left + 2;
            run.answers("undo", left, SpreadingDeletes::undo);
            run.still("tables with " + left + " states left", tables, x -> x.total(0));
        }
        run.still("no fifth one", NONE, SpreadingDeletes::undo);
        run.still("the two first changes stay", 2, x -> x.total(0));
    }

    @Holds("Terms, history: Each call of a method that is described as a change, and that returns neither an error nor NONE, "
            + "records the state before it; if there are 4 already, the oldest one is dropped")
    void whatIsRecorded() {
        int[] answers = {0, 1, 0, SET_NULL, 1, 1, -1, 2, 1, 0};
        for (int count = 0; count < answers.length; count++) {
            changing(count).changes("change " + count, answers[count], eachChange().get(count));
        }
        Run run = busy();
        run.still("a refused change", NOT_POSSIBLE, x -> x.delete(0, 1));
        run.still("NONE of a change", NONE, x -> x.setRule(0, RESTRICT));
        run.copy().answers("no change", 4, SpreadingDeletes::keep).still("states", 4, x -> x.total(7));
        Run one = tables(1);
        one.copy().answers("no change", 0, SpreadingDeletes::keep).still("states", 1, x -> x.total(7));
        one.copy().answers("no change", 1, x -> x.type('+')).still("states", 1, x -> x.total(7));
        one.copy().answers("no change", 0, SpreadingDeletes::clearText).still("states", 1, x -> x.total(7));
        one.copy().answers("no change", 0, SpreadingDeletes::undo).still("states", 0, x -> x.total(7));
    }

    @Holds("Terms, history: There is one snapshot, empty at first")
    void oneSnapshot() {
        Run run = run();
        run.still("no snapshot", NONE, SpreadingDeletes::restore);
        run.make(SpreadingDeletes::addTable);
        run.still("no snapshot still", NONE, SpreadingDeletes::restore);
        run.make(SpreadingDeletes::keep, SpreadingDeletes::addTable, x -> x.insert(1, 5, -1, -1), SpreadingDeletes::keep,
                x -> x.insert(1, 6, -1, -1));
        run.changes("the later one", 1, SpreadingDeletes::restore);
        run.changes("again the later one", 1, SpreadingDeletes::restore);
        run.still("tables", 2, x -> x.total(0));
        Run empty = run().make(SpreadingDeletes::keep, SpreadingDeletes::addTable);
        empty.changes("a snapshot of a new object is one", 0, SpreadingDeletes::restore);
        empty.still("no tables", 0, x -> x.total(0));
    }

    @Holds("Terms, history: The state is everything except the text, the history and the snapshot")
    void whatTheStateIs() {
        Run run = busy().make(x -> x.delete(0, 2), x -> x.setRule(0, CASCADE), x -> x.delete(1, 4));
        run.still("inserted", 5, x -> x.total(4));
        run.still("deleted", 3, x -> x.total(5));
        run.still("changed", 1, x -> x.total(6));
        run.copy().make(SpreadingDeletes::undo, SpreadingDeletes::undo, SpreadingDeletes::undo)
                .leadsTo("three changes undone", busy());
        Run text = run.copy().make(SpreadingDeletes::clearText, x -> x.type('x'), SpreadingDeletes::undo);
        text.still("undo leaves the text", 1, x -> x.total(8));
        text.make(SpreadingDeletes::restore);
        text.still("restore leaves the text", 1, x -> x.total(8));
        text.still("restore leaves the history", 4, x -> x.total(7));
        text.still("counted in the snapshot", 4, x -> x.total(4));
        text.still("not deleted in the snapshot", 0, x -> x.total(5));
        text.still("not changed in the snapshot", 0, x -> x.total(6));
        text.still("no deletion in the snapshot", NONE, x -> x.deleted(0));
        Run kept = run.copy().make(SpreadingDeletes::keep, SpreadingDeletes::undo);
        kept.changes("undo leaves the snapshot", 2, SpreadingDeletes::restore);
        kept.leadsTo("the snapshot", run);
        // Column 0 of table 0 points to table 1, then to table 2, then to table 1 again.
        Run columns = tables(3).make(x -> x.insert(1, 4, -1, -1), x -> x.insert(2, 5, -1, -1),
                x -> x.addReference(0, 1, RESTRICT, false, -1), SpreadingDeletes::keep, SpreadingDeletes::undo,
                SpreadingDeletes::addTable, x -> x.addReference(3, 0, RESTRICT, true, -1), x -> x.addReference(0, 2, RESTRICT, true, -1));
        columns.still("the other parent table", NO_PARENT, x -> x.insert(0, 1, 4, -1));
        columns.copy().changes("the other parent table", 1, x -> x.insert(0, 1, 5, -1));
        columns.make(SpreadingDeletes::restore);
        columns.still("the parent table of the snapshot", NO_PARENT, x -> x.insert(0, 1, 5, -1));
        columns.copy().changes("the parent table of the snapshot", 1, x -> x.insert(0, 1, 4, -1));
        columns.make(SpreadingDeletes::undo);
        columns.still("the other parent table again", NO_PARENT, x -> x.insert(0, 1, 4, -1));
        columns.copy().changes("the other parent table again", 1, x -> x.insert(0, 1, 5, -1));
    }

    @Holds("Promise 11: Restores the latest state of the history, and removes it from there")
    void theLatestStateIsRestored() {
        for (int count = 1; count <= eachChange().size(); count++) {
            Run run = changing(count);
            int states = Math.min(4, count);
            for (int back = 1; back <= states; back++) {
                run.answers("undo " + back + " of " + count, states - back, SpreadingDeletes::undo);
                run.leadsTo("back by " + back + " from " + count, changing(count - back));
                int left = states - back;
                run.still("states", left, x -> x.total(7));
            }
            run.still("no more of " + count, NONE, SpreadingDeletes::undo);
        }
        Run again = changing(7).make(SpreadingDeletes::undo);
        again.changes("a change in place of the undone one", -1, x -> x.update(1, 3, 0, 8));
        again.answers("undone", 3, SpreadingDeletes::undo);
        again.leadsTo("as before both", changing(6));
    }

    @Holds("Promise 11: Returns how many states are left")
    void undoTellsTheStates() {
        for (int states = 1; states <= 4; states++) {
            Run run = run();
            for (int count = 0; count < states; count++) {
                run.make(SpreadingDeletes::addTable);
            }
            for (int left = states - 1; left >= 0; left--) {
                run.answers("left of " + states, left, SpreadingDeletes::undo);
            }
            run.still("empty", NONE, SpreadingDeletes::undo);
        }
        Run five = tables(5).answers("of five", 3, SpreadingDeletes::undo);
        five.make(SpreadingDeletes::addTable);
        five.answers("filled up again", 3, SpreadingDeletes::undo);
    }

    @Holds("Promise 11: NONE if the history is empty")
    void undoOfNothing() {
        run().still("a new object", NONE, SpreadingDeletes::undo);
        run().make(SpreadingDeletes::keep, x -> x.type('+'), SpreadingDeletes::clearText).still("no change", NONE,
                SpreadingDeletes::undo);
        run().answers("refused", UNKNOWN, x -> x.delete(0, 0)).still("nothing is recorded", NONE, SpreadingDeletes::undo);
        Run run = tables(1).answers("the only one", 0, SpreadingDeletes::undo);
        run.still("empty", NONE, SpreadingDeletes::undo);
        run.changes("goes on", 0, SpreadingDeletes::addTable);
        run.answers("one again", 0, SpreadingDeletes::undo);
    }

    @Holds("Promise 12: Takes a snapshot of the state, in place of an earlier one")
    void aSnapshotIsTaken() {
        Run run = busy();
        run.copy().answers("kept", 4, SpreadingDeletes::keep).leadsTo("the state stays", run);
        Run kept = run.copy().make(SpreadingDeletes::keep);
        kept.still("it is no change", 4, x -> x.total(7));
        kept.still("the text stays", 9, x -> x.total(8));
        kept.make(x -> x.delete(1, 3), x -> x.delete(1, 4), x -> x.delete(0, 1), SpreadingDeletes::addTable,
                x -> x.setRule(0, CASCADE), x -> x.addReference(2, 0, CASCADE, false, -1));
        kept.copy().changes("restored", 4, SpreadingDeletes::restore).leadsTo("as it was kept", run);
        Run later = kept.copy().make(SpreadingDeletes::keep, x -> x.delete(0, 2));
        later.changes("the later one", 1, SpreadingDeletes::restore);
        later.leadsTo("in place of the earlier one", kept);
        run.make(SpreadingDeletes::keep, SpreadingDeletes::undo);
        run.changes("the state of the moment", 4, SpreadingDeletes::restore);
        run.leadsTo("with what undo took", busy());
    }

    @Holds("Promise 12: Returns how many rows there are in all tables")
    void keepTellsTheRows() {
        run().answers("no tables", 0, SpreadingDeletes::keep);
        tables(6).answers("no rows", 0, SpreadingDeletes::keep);
        filled(20).answers("a full table", 20, SpreadingDeletes::keep);
        busy().answers("two tables", 4, SpreadingDeletes::keep);
        Run run = tables(6);
        for (int row = 0; row < 120; row++) {
            int table = row % 6;
            int key = row / 6;
            run.make(x -> x.insert(table, key, -1, -1));
        }
        run.answers("six full tables", 120, SpreadingDeletes::keep);
        run.make(x -> x.delete(5, 19));
        run.answers("one row less", 119, SpreadingDeletes::keep);
    }

    @Holds("Promise 13: Restores the state of the snapshot, which stays")
    void theSnapshotIsRestored() {
        Run kept = pair(SET_DEFAULT, true, 2).make(x -> x.insert(1, 3, 1, -1), x -> x.delete(0, 1));
        Run run = kept.copy().make(SpreadingDeletes::keep, x -> x.delete(1, 3), x -> x.delete(0, 2),
                SpreadingDeletes::addTable, x -> x.setRule(0, NO_ACTION));
        for (int time = 1; time <= 6; time++) {
            run.changes("time " + time, 2, SpreadingDeletes::restore);
            run.leadsTo("as it was kept " + time, kept);
            run.make(x -> x.update(1, 3, 0, 2) == NONE ? 0 : -2, x -> x.insert(0, 50, -1, -1));
        }
        run.changes("once more", 2, SpreadingDeletes::restore);
        run.still("the default goes", 4, x -> x.reason(0, 2));
    }

    @Holds("Promise 13: This is a change")
    void restoreIsAChange() {
        Run run = busy().changes("to an earlier state", 4, SpreadingDeletes::restore);
        run.changes("to the same state", 4, SpreadingDeletes::restore);
        run.still("the text stays", 9, x -> x.total(8));
        run.make(SpreadingDeletes::undo, SpreadingDeletes::undo);
        run.leadsTo("undone", busy());
        run().still("without a snapshot, it is none", NONE, SpreadingDeletes::restore);
        Run first = run().make(SpreadingDeletes::keep).changes("the first change", 0, SpreadingDeletes::restore);
        first.answers("undone", 0, SpreadingDeletes::undo);
    }

    @Holds("Promise 13: Returns how many rows there are then in all tables")
    void restoreTellsTheRows() {
        run().make(SpreadingDeletes::keep, SpreadingDeletes::addTable, x -> x.insert(0, 5, -1, -1))
                .changes("none", 0, SpreadingDeletes::restore);
        filled(20).make(SpreadingDeletes::keep, x -> x.delete(0, 5)).changes("twenty, not nineteen", 20,
                SpreadingDeletes::restore);
        filled(19).make(SpreadingDeletes::keep, x -> x.insert(0, 50, -1, -1)).changes("nineteen, not twenty", 19,
                SpreadingDeletes::restore);
        busy().changes("of two tables", 4, SpreadingDeletes::restore);
    }

    @Holds("Promise 13: NONE if there is no snapshot")
    void restoreOfNothing() {
        run().still("a new object", NONE, SpreadingDeletes::restore);
        Run run = filled(1).make(x -> x.insert(0, 5, -1, -1));
        run.still("changes are no snapshots", NONE, SpreadingDeletes::restore);
        run.make(SpreadingDeletes::undo);
        run.still("undo leaves none", NONE, SpreadingDeletes::restore);
        run.make(SpreadingDeletes::keep);
        run.changes("now there is one", 1, SpreadingDeletes::restore);
    }
}
