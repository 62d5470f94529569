/** The boundary cases of what would be: the promises 21 to 26. */
final class ForecastBoundaries extends Boundaries {
    ForecastBoundaries(Check check) {
        super(check);
    }

    /** A chain through all the rows of six full tables, and back to its first row, 0:0. */
    private Run ringOf120() {
        Run run = tables(6).make(x -> x.addReference(0, 5, CASCADE, false, -1));
        for (int table = 1; table < 6; table++) {
            int child = table;
            run.make(x -> x.addReference(child, child - 1, CASCADE, false, -1));
        }
        for (int row = 0; row < 120; row++) {
            int table = row % 6;
            int key = row / 6;
            run.make(x -> x.insert(table, key, table == 0 ? key - 1 : key, -1));
        }
        return run.make(x -> x.update(0, 0, 0, 19));
    }

    /** One question about a row, as it is asked of rows that there are not. */
    private interface Question {
        int about(SpreadingDeletes x, int table, int key);
    }

    /** Rows 0:0, 0:99 and 1:5, about which the question is no error; about all others it is one. */
    private void unknown(Question question) {
        run().still("no table at all", UNKNOWN, x -> question.about(x, 0, 0));
        tables(1).still("an empty table", UNKNOWN, x -> question.about(x, 0, 0));
        Run run = tables(2).make(x -> x.insert(0, 0, -1, -1), x -> x.insert(0, 99, -1, -1), x -> x.insert(1, 5, -1, -1));
        for (int table : outside(0, 1)) {
            run.still("table " + table, UNKNOWN, x -> question.about(x, table, 0));
            run.still("table " + table + ", a key far off", UNKNOWN, x -> question.about(x, table, -100 * table));
        }
        for (int key : outside(0, 99)) {
            run.still("key " + key, UNKNOWN, x -> question.about(x, 0, key));
            run.still("key " + key + " of the last table", UNKNOWN, x -> question.about(x, 1, key));
        }
        run.still("a row of the other table", UNKNOWN, x -> question.about(x, 0, 5));
        run.still("a row of the other table", UNKNOWN, x -> question.about(x, 1, 0));
        run.still("the other table's row, counted from here", UNKNOWN, x -> question.about(x, 0, 105));
        run.still("this table's row, counted from there", UNKNOWN, x -> question.about(x, 1, -1));
        run.make(x -> x.delete(1, 5));
        run.still("a deleted row", UNKNOWN, x -> question.about(x, 1, 5));
    }

    /** The same for rows that there are. */
    private void known(Question question, int least, int greatest) {
        Run run = tables(6).make(x -> x.insert(0, 0, -1, -1), x -> x.insert(5, 99, -1, -1));
        run.still("the least row", least, x -> question.about(x, 0, 0));
        run.still("the greatest row", greatest, x -> question.about(x, 5, 99));
    }

    @Holds("Promise 21: Tells a row that would be deleted with a row")
    void theGatheredRows() {
        Run run = pair(CASCADE, false, -1).make(x -> x.insert(1, 3, 1, -1), x -> x.insert(1, 4, 2, -1));
        run.still("a child", 103, x -> x.gathered(0, 1, 0));
        run.still("the row itself", 1, x -> x.gathered(0, 1, 1));
        run.still("another row's child is none", NONE, x -> x.gathered(0, 1, 2));
        run.still("another row", 104, x -> x.gathered(0, 2, 0));
        run.still("a child's parent is none", NONE, x -> x.gathered(1, 3, 1));
        run.still("again, behind another row", 103, x -> x.gathered(0, 1, 0));
        run.changes("is what is deleted", 2, x -> x.delete(0, 1));
        run.still("the child", 103, x -> x.deleted(0));
        run.still("the row", 1, x -> x.deleted(1));
    }

    @Holds("Promise 21: `index`: its place in the list of gathered rows, from 0")
    void placesOfGatheredRows() {
        Run run = ringOf120();
        for (int index = 0; index < 120; index++) {
            int place = index;
            int row = 119 - index;
            run.copy().answers("place " + index, row % 6 * 100 + row / 6, x -> x.gathered(0, 0, place));
        }
        run.copy().answers("the first from the middle", 106, x -> x.gathered(2, 6, 0));
        run.copy().answers("the last from the middle", 206, x -> x.gathered(2, 6, 119));
        run.copy().answers("no more", NONE, x -> x.gathered(2, 6, 120));
    }

    @Holds("Promise 21: Returns 100 times its table plus its key")
    void numbersOfGatheredRows() {
        known((x, table, key) -> x.gathered(table, key, 0), 0, 599);
        filled(1).still("of row 0:0", 0, x -> x.gathered(0, 0, 0));
        Run run = tables(2).make(x -> x.addReference(1, 0, CASCADE, false, -1), x -> x.insert(0, 99, -1, -1),
                x -> x.insert(1, 0, 99, -1));
        run.still("of row 1:0", 100, x -> x.gathered(0, 99, 0));
        run.still("of row 0:99", 99, x -> x.gathered(0, 99, 1));
    }

    @Holds({"Promise 21: UNKNOWN", "Promise 21: `table`: a table", "Promise 21: `key`: the key of a row"})
    void gatheredWithNoRow() {
        unknown((x, table, key) -> x.gathered(table, key, 0));
        unknown((x, table, key) -> x.gathered(table, key, -1));
        unknown((x, table, key) -> x.gathered(table, key, Integer.MAX_VALUE));
        known((x, table, key) -> x.gathered(table, key, 0), 0, 599);
    }

    @Holds("Promise 21: OUT_OF_RANGE if index is negative")
    void negativeIndexOfGatheredRows() {
        Run run = busy();
        for (int index : new int[] {-1, -2, -100, Integer.MIN_VALUE}) {
            run.still("index " + index, OUT_OF_RANGE, x -> x.gathered(0, 2, index));
            run.still("index " + index + " of a refused deletion", OUT_OF_RANGE, x -> x.gathered(0, 1, index));
        }
        run.still("index 0", 2, x -> x.gathered(0, 2, 0));
    }

    @Holds("Promise 21: NONE if there are not so many (this is told also of a deletion that would be refused)")
    void indexBehindTheGatheredRows() {
        Run run = busy();
        run.still("would be refused", 1, x -> x.reason(0, 1));
        run.still("the only one, refused", 1, x -> x.gathered(0, 1, 0));
        for (int index : new int[] {1, 2, 119, 120, 256, 65536, Integer.MAX_VALUE}) {
            run.still("index " + index, NONE, x -> x.gathered(0, 2, index));
            run.still("index " + index + ", refused", NONE, x -> x.gathered(0, 1, index));
        }
        Run more = pair(CASCADE, false, -1).make(x -> x.addReference(1, 0, RESTRICT, false, -1), x -> x.insert(1, 3, 1, 1),
                x -> x.insert(1, 4, 1, -1));
        more.still("three of a refused one", 103, x -> x.gathered(0, 1, 0));
        more.still("three of a refused one", 104, x -> x.gathered(0, 1, 1));
        more.still("three of a refused one", 1, x -> x.gathered(0, 1, 2));
        more.still("no fourth of a refused one", NONE, x -> x.gathered(0, 1, 3));
        more.still("it is refused", 1, x -> x.reason(0, 1));
        more.still("after a longer list", NONE, x -> x.gathered(0, 2, 1));
    }

    @Holds("Promise 22: Tells the reason for which a deletion would be refused")
    void theReason() {
        Run run = busy();
        run.still("refused", 1, x -> x.reason(0, 1));
        run.still("and so it is", NOT_POSSIBLE, x -> x.delete(0, 1));
        run.still("not refused", 0, x -> x.reason(0, 2));
        run.still("again refused", 1, x -> x.reason(0, 1));
        run.make(x -> x.setRule(0, NO_ACTION));
        run.still("by the new rule", 2, x -> x.reason(0, 1));
        run.make(x -> x.update(1, 3, 0, 2), x -> x.update(1, 4, 0, 2));
        run.still("not refused any more", 0, x -> x.reason(0, 1));
        run.still("the new parent", 2, x -> x.reason(0, 2));
    }

    @Holds("Promise 22: Returns the reason, 1 to 4, or 0 if it would not be refused")
    void reasonsFromNoneToFour() {
        int[] rules = {CASCADE, RESTRICT, NO_ACTION, SET_NULL, SET_DEFAULT};
        for (int reason = 0; reason <= 4; reason++) {
            int rule = rules[reason];
            Run run = pair(rule, true, 99).make(x -> x.insert(1, 3, 1, -1));
            run.still("rule " + rule, reason, x -> x.reason(0, 1));
            run.still("rule " + rule + " without children", 0, x -> x.reason(0, 2));
            run.still("rule " + rule + ", a child", 0, x -> x.reason(1, 3));
            run.answers("deletion", reason == 0 ? 2 : NOT_POSSIBLE, x -> x.delete(0, 1));
        }
        known(SpreadingDeletes::reason, 0, 0);
    }

    @Holds({"Promise 22: UNKNOWN", "Promise 22: `table`: a table", "Promise 22: `key`: the key of a row"})
    void reasonOfNoRow() {
        unknown(SpreadingDeletes::reason);
        known(SpreadingDeletes::reason, 0, 0);
        busy().still("next to a refused one", UNKNOWN, x -> x.reason(0, 0));
    }

    @Holds("Promise 23: Tells the blocking row of a deletion that would be refused")
    void theBlockingRow() {
        Run run = busy();
        run.still("the child of the least key", 103, x -> x.blocking(0, 1));
        run.make(x -> x.update(1, 3, 0, 2));
        run.still("the other child", 104, x -> x.blocking(0, 1));
        run.still("of the other parent", 103, x -> x.blocking(0, 2));
        run.make(x -> x.insert(1, 0, 2, -1), x -> x.insert(1, 99, 1, -1));
        run.still("a lesser key", 100, x -> x.blocking(0, 2));
        run.still("a greater key", 104, x -> x.blocking(0, 1));
        run.make(x -> x.delete(1, 4));
        run.still("the greatest key", 199, x -> x.blocking(0, 1));
    }

    @Holds("Promise 23: Returns 100 times its table plus its key")
    void numbersOfBlockingRows() {
        Run least = tables(1).make(x -> x.addReference(0, 0, RESTRICT, false, -1), x -> x.insert(0, 1, -1, -1),
                x -> x.insert(0, 0, 1, -1));
        least.still("0:0", 0, x -> x.blocking(0, 1));
        Run greatest = tables(6).make(x -> x.addReference(5, 0, NO_ACTION, false, -1), x -> x.insert(0, 1, -1, -1),
                x -> x.insert(5, 99, 1, -1));
        greatest.still("5:99", 599, x -> x.blocking(0, 1));
        Run between = pair(SET_NULL, true, -1).make(x -> x.insert(1, 0, 1, -1));
        between.still("1:0", 100, x -> x.blocking(0, 1));
    }

    @Holds({"Promise 23: UNKNOWN", "Promise 23: `table`: a table", "Promise 23: `key`: the key of a row"})
    void blockingOfNoRow() {
        unknown(SpreadingDeletes::blocking);
        known(SpreadingDeletes::blocking, NONE, NONE);
        busy().still("next to a refused one", UNKNOWN, x -> x.blocking(0, 0));
    }

    @Holds("Promise 23: NONE if it would not be refused")
    void nothingBlocks() {
        Run run = busy();
        run.still("refused", 103, x -> x.blocking(0, 1));
        run.still("without children", NONE, x -> x.blocking(0, 2));
        run.still("a child", NONE, x -> x.blocking(1, 3));
        run.still("a parent by set null", NONE, x -> x.blocking(1, 4));
        run.make(x -> x.setRule(0, CASCADE));
        run.still("cascade", NONE, x -> x.blocking(0, 1));
        run.make(x -> x.setRule(0, SET_DEFAULT));
        run.still("a default that is there", NONE, x -> x.blocking(0, 1));
        loops(RESTRICT, 1).still("its own parent", NONE, x -> x.blocking(0, 1));
    }

    @Holds("Promise 24: Tells how many values a deletion would change (in rows that are not deleted)")
    void changedValues() {
        Run run = tables(3).make(x -> x.addReference(1, 0, CASCADE, false, -1),
                x -> x.addReference(1, 0, SET_NULL, false, -1), x -> x.addReference(2, 1, SET_NULL, false, -1),
                x -> x.addReference(2, 0, SET_DEFAULT, false, 2), x -> x.insert(0, 1, -1, -1),
                x -> x.insert(0, 2, -1, -1), x -> x.insert(1, 3, 1, 1), x -> x.insert(1, 4, 2, 1),
                x -> x.insert(2, 5, 3, 1), x -> x.insert(2, 6, 4, 2));
        run.still("1:4 by set null, 2:5 by both columns", 3, x -> x.wouldChange(0, 1));
        run.changes("and so it does", 2, x -> x.delete(0, 1));
        run.still("changed so far", 3, x -> x.total(6));
        Run gathered = tables(2).make(x -> x.addReference(1, 0, CASCADE, false, -1),
                x -> x.addReference(1, 0, SET_NULL, false, -1), x -> x.insert(0, 1, -1, -1), x -> x.insert(1, 3, 1, 1));
        gathered.still("a row that is deleted does not count", 0, x -> x.wouldChange(0, 1));
        loops(SET_NULL, 2).still("the row itself does not count", 0, x -> x.wouldChange(0, 1));
        loops(SET_NULL, 2).make(x -> x.update(0, 2, 0, 1)).still("another child counts", 1, x -> x.wouldChange(0, 1));
    }

    @Holds("Promise 24: Returns how many")
    void fromNoneToFortyValues() {
        Run run = tables(2).make(x -> x.addReference(1, 0, SET_NULL, false, -1),
                x -> x.addReference(1, 0, SET_DEFAULT, true, 2), x -> x.insert(0, 1, -1, -1), x -> x.insert(0, 2, -1, -1));
        for (int number = 0; number < 20; number++) {
            int count = number;
            run.still("of " + count + " rows", 2 * count, x -> x.wouldChange(0, 1));
            run.make(x -> x.insert(1, count, 1, 1));
        }
        run.still("forty", 40, x -> x.wouldChange(0, 1));
        run.still("none", 0, x -> x.wouldChange(1, 0));
        run.changes("the deletion", 1, x -> x.delete(0, 1));
        run.still("so many are changed", 40, x -> x.total(6));
        known(SpreadingDeletes::wouldChange, 0, 0);
    }

    @Holds({"Promise 24: UNKNOWN", "Promise 24: `table`: a table", "Promise 24: `key`: the key of a row"})
    void changesByNoRow() {
        unknown(SpreadingDeletes::wouldChange);
        known(SpreadingDeletes::wouldChange, 0, 0);
        busy().still("next to a refused one", UNKNOWN, x -> x.wouldChange(0, 0));
    }

    @Holds("Promise 24: NOT_POSSIBLE if it would be refused")
    void changesOfARefusedDeletion() {
        Run run = busy();
        run.still("refused", NOT_POSSIBLE, x -> x.wouldChange(0, 1));
        run.still("not refused, one value", 1, x -> x.wouldChange(1, 4));
        run.still("not refused, no value", 0, x -> x.wouldChange(0, 2));
        for (int number = 0; number < 4; number++) {
            int rule = new int[] {RESTRICT, NO_ACTION, SET_NULL, SET_DEFAULT}[number];
            Run some = tables(2).make(x -> x.addReference(1, 0, SET_NULL, false, -1),
                    x -> x.addReference(1, 0, rule, true, 99), x -> x.insert(0, 1, -1, -1), x -> x.insert(1, 3, 1, 1));
            some.still("a value ahead of the refusal by rule " + rule, NOT_POSSIBLE, x -> x.wouldChange(0, 1));
            some.make(x -> x.insert(0, 99, -1, -1), x -> x.update(1, 3, 1, 99));
            some.still("a value alone, rule " + rule, 1, x -> x.wouldChange(0, 1));
        }
    }

    @Holds("Promise 25: Tells whether a row is in a ring: whether the way from it to one of its parents (by any column), to a "
            + "parent of that, and so on, can lead back to it")
    void rings() {
        Run run = tables(2).make(x -> x.addReference(0, 1, RESTRICT, false, -1),
                x -> x.addReference(0, 0, SET_NULL, false, -1), x -> x.addReference(1, 0, NO_ACTION, false, -1),
                x -> x.insert(0, 1, -1, -1), x -> x.insert(1, 1, 1, -1), x -> x.insert(0, 2, 1, 1));
        inRing(run, 0, 0, 0);
        run.make(x -> x.update(0, 1, 1, 1));
        inRing(run, 1, 0, 0);
        run.make(x -> x.update(0, 1, 1, 2));
        inRing(run, 1, 1, 1);
        run.make(x -> x.update(0, 2, 1, -1));
        inRing(run, 1, 1, 1);
        run.make(x -> x.update(0, 2, 0, -1));
        inRing(run, 0, 0, 0);
        run.make(x -> x.update(0, 1, 0, 1));
        inRing(run, 1, 1, 0);
        run.make(x -> x.update(0, 2, 0, 1));
        inRing(run, 1, 1, 1);
        run.make(x -> x.update(0, 1, 1, -1));
        inRing(run, 1, 1, 0);
    }

    /** Whether the rows 0:1, 1:1 and 0:2 are in rings. */
    private static void inRing(Run run, int... rows) {
        run.still("0:1", rows[0], x -> x.isInRing(0, 1));
        run.still("1:1", rows[1], x -> x.isInRing(1, 1));
        run.still("0:2", rows[2], x -> x.isInRing(0, 2));
    }

    /** Each row has the two next ones as its parents, so that there are far more ways than rows. */
    private Run manyWays() {
        Run run = tables(1).make(x -> x.addReference(0, 0, SET_NULL, false, -1),
                x -> x.addReference(0, 0, SET_NULL, false, -1));
        for (int row = 19; row >= 0; row--) {
            int key = row;
            run.make(x -> x.insert(0, key, Math.min(19, key + 1), Math.min(19, key + 2)));
        }
        return run.make(x -> x.update(0, 19, 0, -1), x -> x.update(0, 19, 1, -1));
    }

    @Holds("Promise 25: Returns 1 or 0")
    void inARingOrNot() {
        known(SpreadingDeletes::isInRing, 0, 0);
        loops(RESTRICT, 1).still("its own parent", 1, x -> x.isInRing(0, 1));
        Run run = ringOf120();
        for (int table = 0; table < 6; table++) {
            int number = table;
            run.copy().answers("of 120", 1, x -> x.isInRing(number, 0));
            run.copy().answers("of 120", 1, x -> x.isInRing(number, 19));
        }
        run.make(x -> x.update(3, 10, 0, -1));
        for (int table = 0; table < 6; table++) {
            int number = table;
            run.copy().answers("the ring is open", 0, x -> x.isInRing(number, 0));
            run.copy().answers("the ring is open", 0, x -> x.isInRing(number, 10));
        }
        run.make(x -> x.update(3, 10, 0, 10), x -> x.update(0, 1, 0, 19));
        run.copy().answers("left out of the ring", 0, x -> x.isInRing(5, 0));
        run.copy().answers("in the shorter ring", 1, x -> x.isInRing(0, 1));
        run.copy().answers("in the shorter ring", 1, x -> x.isInRing(5, 19));
        Run ways = manyWays();
        for (int row = 0; row < 20; row++) {
            int key = row;
            ways.copy().answers("no way back to " + key, 0, x -> x.isInRing(0, key));
            ways.copy().make(x -> x.update(0, 19, 1, 0)).answers("a way back to " + key, 1, x -> x.isInRing(0, key));
        }
    }

    @Holds({"Promise 25: UNKNOWN", "Promise 25: `table`: a table", "Promise 25: `key`: the key of a row"})
    void ringOfNoRow() {
        unknown(SpreadingDeletes::isInRing);
        known(SpreadingDeletes::isInRing, 0, 0);
        loops(RESTRICT, 1).still("next to one in a ring", UNKNOWN, x -> x.isInRing(0, 0));
    }

    @Holds("Promise 26: Tells how many rows could be deleted now by themselves: those whose deletion would not be refused, and "
            + "would delete no other row")
    void deletableByThemselves() {
        int[] parents = {1, 1, 1, 2, 2};
        for (int number = 0; number <= 4; number++) {
            int rule = number;
            Run run = pair(rule, false, -1).make(x -> x.insert(1, 3, 1, -1), x -> x.insert(1, 4, -1, -1));
            run.still("parents by rule " + rule, parents[rule], x -> x.deletable(0));
            run.still("children by rule " + rule, 2, x -> x.deletable(1));
            loops(rule, 3).still("own parents by rule " + rule, 3, x -> x.deletable(0));
            Run required = pair(rule, true, 9).make(x -> x.insert(1, 3, 1, -1));
            required.still("required, parents by rule " + rule, 1, x -> x.deletable(0));
        }
        Run run = pair(SET_DEFAULT, true, 2).make(x -> x.insert(1, 3, 1, -1), x -> x.insert(1, 4, 2, -1));
        run.still("all but the default", 1, x -> x.deletable(0));
        Run ring = loops(CASCADE, 3).make(x -> x.update(0, 1, 0, 2), x -> x.update(0, 2, 0, 1));
        ring.still("a ring of two, and one by itself", 1, x -> x.deletable(0));
        ring.make(x -> x.setRule(0, SET_NULL));
        ring.still("set null", 3, x -> x.deletable(0));
        ring.make(x -> x.setRule(0, RESTRICT));
        ring.still("restrict", 1, x -> x.deletable(0));
    }

    @Holds("Promise 26: Returns how many rows of the table")
    void deletableFromNoneToTwenty() {
        tables(1).still("an empty table", 0, x -> x.deletable(0));
        for (int count : new int[] {1, 2, 19, 20}) {
            filled(count).still("all of " + count, count, x -> x.deletable(0));
        }
        Run run = tables(2).make(x -> x.addReference(1, 0, NO_ACTION, false, -1));
        for (int row = 0; row < 20; row++) {
            int key = row;
            run.make(x -> x.insert(0, key, -1, -1), x -> x.insert(1, key, key, -1));
        }
        run.still("none of twenty", 0, x -> x.deletable(0));
        run.still("of the other table all", 20, x -> x.deletable(1));
        run.make(x -> x.delete(1, 19), x -> x.delete(1, 0));
        run.still("the first and the last", 2, x -> x.deletable(0));
        ringOf120().answers("none of a ring", 0, x -> x.deletable(3));
    }

    @Holds({"Promise 26: UNKNOWN", "Promise 26: `table`: a table"})
    void deletableOfNoTable() {
        run().still("no table at all", UNKNOWN, x -> x.deletable(0));
        Run run = tables(2).make(x -> x.insert(0, 0, -1, -1), x -> x.insert(1, 5, -1, -1));
        for (int table : outside(0, 1)) {
            run.still("table " + table, UNKNOWN, x -> x.deletable(table));
        }
        run.still("the least", 1, x -> x.deletable(0));
        run.still("the greatest", 1, x -> x.deletable(1));
        tables(6).still("the last of six", 0, x -> x.deletable(5));
        tables(6).still("behind the last of six", UNKNOWN, x -> x.deletable(6));
    }
}
