/** For each promise: ordinary inputs, the edges that the document names, and wrong inputs. */
public final class PromiseTest extends Numbers {
    private final Check check = new Check();

    public static void main(String[] args) {
        PromiseTest test = new PromiseTest();
        test.newObject();
        test.addTable();
        test.addReference();
        test.addReferenceFull();
        test.setRule();
        test.insert();
        test.insertOrderOfErrors();
        test.update();
        test.delete();
        test.deleteChangesValues();
        test.type();
        test.clearText();
        test.perform();
        test.performFaults();
        test.performErrors();
        test.undo();
        test.undoBringsBackEverything();
        test.keepAndRestore();
        test.rowsAndKeyAt();
        test.value();
        test.children();
        test.reference();
        test.deleted();
        test.total();
        test.gathered();
        test.gatheredInRings();
        test.gatheredDeep();
        test.reasonAndBlocking();
        test.reasonOfGatheredChildren();
        test.reasonOfDefaults();
        test.firstReason();
        test.wouldChange();
        test.isInRing();
        test.deletable();
        test.refusalsChangeNothing();
        test.check.end();
    }

    private void due(String what, int got, int want) {
        check.due(what, got, want);
    }

    private static SpreadingDeletes tables(int count) {
        SpreadingDeletes x = new SpreadingDeletes();
        for (int table = 0; table < count; table++) {
            x.addTable();
        }
        return x;
    }

    /** One table 1 whose column 0 points to table 0; table 0 has the rows 1 and 2. */
    private static SpreadingDeletes pair(int rule, boolean required, int standard) {
        SpreadingDeletes x = tables(2);
        x.addReference(1, 0, rule, required, standard);
        x.insert(0, 1, -1, -1);
        x.insert(0, 2, -1, -1);
        return x;
    }

    /** A table that points to itself, with the rows 1 to count, which are their own parents. */
    private static SpreadingDeletes loops(int rule, int count) {
        SpreadingDeletes x = tables(1);
        x.addReference(0, 0, rule, false, -1);
        for (int key = 1; key <= count; key++) {
            x.insert(0, key, key, -1);
        }
        return x;
    }

    private static void write(SpreadingDeletes x, String text) {
        x.clearText();
        for (int index = 0; index < text.length(); index++) {
            x.type(text.charAt(index));
        }
    }

    private static int perform(SpreadingDeletes x, String text) {
        write(x, text);
        return x.perform();
    }

    private void newObject() {
        SpreadingDeletes x = new SpreadingDeletes();
        for (int what = 0; what <= 8; what++) {
            due("1: total " + what, x.total(what), 0);
        }
        due("1: rows", x.rows(0), UNKNOWN);
        due("1: reference", x.reference(0, 0), UNKNOWN);
        due("1: undo", x.undo(), NONE);
        due("1: restore", x.restore(), NONE);
        due("1: deleted", x.deleted(0), NONE);
        due("1: perform", x.perform(), -100);
    }

    private void addTable() {
        SpreadingDeletes x = new SpreadingDeletes();
        for (int table = 0; table < 6; table++) {
            due("2: table", x.addTable(), table);
            due("2: no rows", x.rows(table), 0);
            due("2: is a change", x.total(7), Math.min(4, table + 1));
        }
        due("2: seventh", x.addTable(), FULL);
        due("2: seventh changes nothing", x.total(0), 6);
    }

    private void addReference() {
        SpreadingDeletes x = tables(2);
        due("3: no child table", x.addReference(2, 0, 9, false, 200), UNKNOWN);
        due("3: no parent table", x.addReference(0, -1, 9, false, 200), UNKNOWN);
        due("3: rule below", x.addReference(0, 1, -1, false, -1), OUT_OF_RANGE);
        due("3: rule above", x.addReference(0, 1, 5, false, -1), OUT_OF_RANGE);
        due("3: default below", x.addReference(0, 1, 0, false, -2), OUT_OF_RANGE);
        due("3: default above", x.addReference(0, 1, 0, false, 100), OUT_OF_RANGE);
        due("3: no change by errors", x.total(7), 2);
        due("3: first", x.addReference(0, 1, 0, false, 0), 0);
        due("3: is a change", x.total(7), 3);
        due("3: to itself", x.addReference(1, 1, 4, true, 99), 1);
        due("3: second column", x.addReference(0, 0, 2, true, -1), 2);
        due("3: third column", x.addReference(0, 1, 0, false, -1), FULL);
        due("3: range ahead of full", x.addReference(0, 1, 5, false, -1), OUT_OF_RANGE);
        x.insert(1, 5, 5, -1);
        due("3: child has rows", x.addReference(1, 0, 0, false, -1), NOT_POSSIBLE);
        due("3: range ahead of not possible", x.addReference(1, 0, 0, false, 100), OUT_OF_RANGE);
        x.insert(0, 1, -1, 1);
        due("3: full ahead of not possible", x.addReference(0, 0, 0, false, -1), FULL);
        due("3: count", x.total(1), 3);
        SpreadingDeletes y = tables(2);
        y.insert(0, 1, -1, -1);
        due("3: the parent may have rows", y.addReference(1, 0, 0, false, -1), 0);
    }

    private void addReferenceFull() {
        SpreadingDeletes x = tables(6);
        for (int reference = 0; reference < 12; reference++) {
            due("3: reference", x.addReference(reference % 6, 0, 0, false, -1), reference);
            due("3: its column", x.reference(reference, 2), reference / 6);
        }
        due("3: thirteenth", x.addReference(0, 0, 0, false, -1), FULL);
        x.setRule(11, CASCADE);
        x.insert(0, 1, -1, -1);
        x.insert(5, 9, -1, 1);
        due("3: the last one counts", x.gathered(0, 1, 0), 509);
        due("3: the last one counts", x.isInRing(5, 9), 0);
        due("3: the last one counts", x.delete(0, 1), 2);
    }

    private void setRule() {
        SpreadingDeletes x = tables(2);
        x.addReference(1, 0, RESTRICT, false, -1);
        due("4: no reference", x.setRule(1, 9), UNKNOWN);
        due("4: negative reference", x.setRule(-1, 0), UNKNOWN);
        due("4: rule above", x.setRule(0, 5), OUT_OF_RANGE);
        due("4: rule below", x.setRule(0, -1), OUT_OF_RANGE);
        due("4: the rule already", x.setRule(0, RESTRICT), NONE);
        due("4: no change", x.total(7), 3);
        due("4: previous", x.setRule(0, SET_DEFAULT), RESTRICT);
        due("4: is a change", x.total(7), 4);
        due("4: previous again", x.setRule(0, NO_ACTION), SET_DEFAULT);
        due("4: rule", x.reference(0, 3), NO_ACTION);
        x.undo();
        due("4: undone", x.reference(0, 3), SET_DEFAULT);
    }

    private void insert() {
        SpreadingDeletes x = pair(RESTRICT, true, -1);
        x.addReference(1, 1, RESTRICT, false, -1);
        due("5: row", x.insert(1, 7, 2, -1), 1);
        due("5: own parent", x.insert(1, 3, 1, 3), 2);
        due("5: second value", x.insert(1, 0, 1, 7), 3);
        due("5: first column", x.value(1, 0, 0), 1);
        due("5: second column", x.value(1, 0, 1), 7);
        due("5: moved rows keep their values", x.value(1, 7, 0), 2);
        due("5: sorted", x.keyAt(1, 0), 0);
        due("5: sorted", x.keyAt(1, 1), 3);
        due("5: sorted", x.keyAt(1, 2), 7);
        due("5: no parent by column 0", x.insert(1, 9, 3, -1), NO_PARENT);
        due("5: no parent by column 1", x.insert(1, 9, 1, 4), NO_PARENT);
        due("5: own key counts in its own table alone", x.insert(1, 5, 5, -1), NO_PARENT);
        due("5: least key", x.insert(0, 0, -1, -1), 3);
        due("5: greatest key", x.insert(0, 99, -1, -1), 4);
        SpreadingDeletes y = tables(1);
        for (int key = 0; key < 20; key++) {
            due("5: rows", y.insert(0, key, -1, -1), key + 1);
        }
        due("5: twenty-first", y.insert(0, 20, -1, -1), FULL);
        due("5: duplicate ahead of full", y.insert(0, 19, -1, -1), DUPLICATE);
        due("5: range ahead of full", y.insert(0, 20, 0, -1), OUT_OF_RANGE);
        due("5: rows so far", y.total(4), 20);
        due("5: is a change", y.total(7), 4);
    }

    private void insertOrderOfErrors() {
        SpreadingDeletes x = pair(RESTRICT, false, -1);
        x.addReference(1, 0, RESTRICT, true, -1);
        x.insert(1, 4, 1, 1);
        due("5: no table", x.insert(2, 100, -5, 100), UNKNOWN);
        due("5: negative table", x.insert(-1, 4, 1, 1), UNKNOWN);
        due("5: key below", x.insert(1, -1, 1, 1), OUT_OF_RANGE);
        due("5: key above", x.insert(1, 100, 1, 1), OUT_OF_RANGE);
        due("5: first below", x.insert(1, 4, -2, 1), OUT_OF_RANGE);
        due("5: first above", x.insert(1, 4, 100, 1), OUT_OF_RANGE);
        due("5: second below", x.insert(1, 4, 1, -2), OUT_OF_RANGE);
        due("5: second above", x.insert(1, 4, 1, 100), OUT_OF_RANGE);
        due("5: no column 0", x.insert(0, 3, 1, -1), OUT_OF_RANGE);
        due("5: no column 1", x.insert(0, 3, -1, 1), OUT_OF_RANGE);
        due("5: duplicate ahead of required", x.insert(1, 4, -1, -1), DUPLICATE);
        due("5: required ahead of no parent", x.insert(1, 5, 9, -1), REQUIRED);
        due("5: no parent", x.insert(1, 5, 9, 1), NO_PARENT);
        due("5: null where it may be", x.insert(1, 5, -1, 1), 2);
        SpreadingDeletes y = tables(1);
        y.addReference(0, 0, RESTRICT, true, -1);
        for (int key = 0; key < 20; key++) {
            y.insert(0, key, key, -1);
        }
        due("5: full ahead of required", y.insert(0, 50, -1, -1), FULL);
        due("5: full ahead of no parent", y.insert(0, 50, 51, -1), FULL);
    }

    private void update() {
        SpreadingDeletes x = pair(RESTRICT, false, -1);
        x.addReference(1, 1, RESTRICT, true, -1);
        x.insert(1, 4, -1, 4);
        x.insert(1, 5, 1, 4);
        due("6: no table", x.update(2, 4, 0, 100), UNKNOWN);
        due("6: no row", x.update(1, 6, 0, 100), UNKNOWN);
        due("6: no column", x.update(1, 4, 2, 100), UNKNOWN);
        due("6: negative column", x.update(1, 4, -1, 1), UNKNOWN);
        due("6: table without columns", x.update(0, 1, 0, -1), UNKNOWN);
        due("6: value above", x.update(1, 4, 1, 100), OUT_OF_RANGE);
        due("6: value below", x.update(1, 4, 1, -2), OUT_OF_RANGE);
        due("6: required", x.update(1, 4, 1, -1), REQUIRED);
        due("6: no parent", x.update(1, 4, 0, 4), NO_PARENT);
        due("6: null already", x.update(1, 4, 0, -1), NONE);
        due("6: the value already", x.update(1, 5, 0, 1), NONE);
        due("6: nothing changed", x.undo(), 3);
        due("6: nothing changed", x.value(1, 5, 0), UNKNOWN);
        x.insert(1, 5, 1, 4);
        due("6: previous null", x.update(1, 4, 0, 2), -1);
        due("6: is a change", x.total(7), 4);
        due("6: previous key", x.update(1, 4, 0, 1), 2);
        due("6: to null", x.update(1, 4, 0, -1), 1);
        due("6: to itself", x.update(1, 5, 1, 5), 4);
        due("6: value", x.value(1, 5, 1), 5);
        due("6: other column", x.value(1, 5, 0), 1);
        due("6: undone", x.undo() + x.value(1, 5, 1), 3 + 4);
    }

    private void delete() {
        SpreadingDeletes x = pair(CASCADE, false, -1);
        x.insert(1, 1, 1, -1);
        x.insert(1, 2, 2, -1);
        x.insert(1, 3, 1, -1);
        due("7: no table", x.delete(2, 1), UNKNOWN);
        due("7: negative table", x.delete(-1, 1), UNKNOWN);
        due("7: no row", x.delete(0, 3), UNKNOWN);
        due("7: strange row", x.delete(0, Integer.MAX_VALUE), UNKNOWN);
        due("7: with its children", x.delete(0, 1), 3);
        due("7: child is gone", x.value(1, 3, 0), UNKNOWN);
        due("7: other stays", x.value(1, 2, 0), 2);
        due("7: is one change", x.undo(), 3);
        due("7: undone", x.rows(1), 3);
        x.setRule(0, RESTRICT);
        due("7: refused", x.delete(0, 1), NOT_POSSIBLE);
        due("7: a child alone", x.delete(1, 1), 1);
        due("7: still refused", x.delete(0, 1), NOT_POSSIBLE);
        due("7: the other child", x.delete(1, 3), 1);
        due("7: refused no more", x.delete(0, 1), 1);
        due("7: rows", x.rows(0), 1);
    }

    private void deleteChangesValues() {
        SpreadingDeletes x = tables(2);
        x.addReference(1, 0, SET_NULL, false, -1);
        x.addReference(1, 0, SET_DEFAULT, true, 3);
        x.insert(0, 1, -1, -1);
        x.insert(0, 3, -1, -1);
        x.insert(1, 1, 1, 1);
        x.insert(1, 2, 3, 1);
        due("7: delete", x.delete(0, 1), 1);
        due("7: null", x.value(1, 1, 0), -1);
        due("7: default", x.value(1, 1, 1), 3);
        due("7: another parent", x.value(1, 2, 0), 3);
        due("7: default", x.value(1, 2, 1), 3);
        due("7: values changed", x.total(6), 3);
        due("7: default deleted", x.delete(0, 3), NOT_POSSIBLE);
        due("7: refused, nothing changed", x.value(1, 2, 0), 3);
        due("7: refused, not counted", x.total(6), 3);
        SpreadingDeletes y = pair(SET_DEFAULT, false, -1);
        y.insert(1, 1, 1, -1);
        due("7: default null", y.delete(0, 1) + 10 * y.value(1, 1, 0), 1 - 10);
    }

    private void type() {
        SpreadingDeletes x = new SpreadingDeletes();
        for (int length = 1; length <= 60; length++) {
            due("8: length", x.type((char) (length * 1000)), length);
        }
        due("8: full", x.type('+'), FULL);
        due("8: length stays", x.total(8), 60);
        due("8: no change", x.total(7), 0);
        x.addTable();
        write(x, "+0:7");
        x.undo();
        due("8: the text is no part of the state", x.total(8), 4);
    }

    private void clearText() {
        SpreadingDeletes x = new SpreadingDeletes();
        due("9: empty", x.clearText(), 0);
        write(x, "+0:");
        due("9: length", x.clearText(), 3);
        due("9: emptied", x.total(8), 0);
        due("9: again", x.clearText(), 0);
        due("9: no change", x.total(7), 0);
    }

    private void perform() {
        SpreadingDeletes x = tables(2);
        x.addReference(1, 0, CASCADE, false, -1);
        x.addReference(1, 1, SET_NULL, false, -1);
        due("10: insert", perform(x, "+0:0"), 1);
        due("10: rows", x.rows(0), 1);
        due("10: the text stays", x.total(8), 4);
        due("10: again it is a duplicate", x.perform(), DUPLICATE);
        due("10: values", perform(x, "+0:42;+1:7=42;+1:99=n,7;+1:8=0,99;+1:5=n,n"), 5);
        due("10: one change", x.total(7), 4);
        due("10: first", x.value(1, 7, 0), 42);
        due("10: left out", x.value(1, 7, 1), -1);
        due("10: null", x.value(1, 99, 0), -1);
        due("10: second", x.value(1, 99, 1), 7);
        due("10: both", x.value(1, 8, 0) * 100 + x.value(1, 8, 1), 99);
        due("10: nulls", x.value(1, 5, 0) + x.value(1, 5, 1), -2);
        due("10: update", perform(x, "@1:8.0=42;@1:5.1=5;@1:99.1=n"), 3);
        due("10: update", x.value(1, 8, 0), 42);
        due("10: update", x.value(1, 5, 1), 5);
        due("10: update", x.value(1, 99, 1), -1);
        due("10: delete", perform(x, "-1:5;-0:42"), 2);
        due("10: delete with children", x.rows(1), 1);
        due("10: deleted in all", x.total(5), 4);
        due("10: latest deletion", x.deleted(0), 107);
        due("10: latest deletion", x.deleted(2), 42);
        due("10: undone at once", x.undo() + x.rows(1), 3 + 4);
        due("10: left out behind another", perform(x, "+1:1=0,7;+1:2=0;+1:3"), 3);
        due("10: left out behind another", x.value(1, 2, 1), -1);
        due("10: left out behind another", x.value(1, 3, 0), -1);
        x.undo();
        due("10: none is no error", perform(x, "@1:8.0=42;@1:8.0=42"), 2);
        due("10: none is a change", x.total(7), 4);
        due("10: twelve statements", perform(x, "+0:1;+0:2;+0:3;+0:4;+0:5;+0:6;-0:1;-0:2;-0:3;-0:4;-0:5;-0:6"), 12);
    }

    private void performFaults() {
        SpreadingDeletes x = tables(2);
        String[] texts = {"", "+", "+0", "+0:", "+0:1;", "+0:1=", "+0:1=n,", "-", "-0:", "@0:1", "@0:1.", "@0:1.0",
            "@0:1.0=", "+0:1;-", "@0:1.0=n;"};
        for (String text : texts) {
            due("10: too short " + text, perform(x, text), -100 - text.length());
        }
        // In each of these the mark stands ahead of the character that is not allowed.
        String[] marked = {"|0", "| +0:1", "+|6:1", "+|n:1", "+|-", "+0|1:1", "+0|;1", "+0:|n", "+0:|;", "+0:1| ",
            "+0:0|1", "+0:12|3", "+0:1|.", "+0:1=|=", "+0:1=n|n", "+0:1=n|0", "+0:1=0|0", "+0:1=12|3", "+0:1=|-1",
            "+0:1=1|=", "+0:1=1,|,", "+0:1=1,2|,", "+0:1=1,2|,3", "-0:1|=", "-0:1|.0=1", "-0:1|,", "@0:1|=1",
            "@0:1|;", "@0:1.|2=1", "@0:1.|n", "@0:1.0|0", "@0:1.0|;", "@0:1.0=1|,1", "@0:1.0=1|.", "@0:1.1=0|5",
            "+0:1;|;", "+0:1;| ", "+0:1;-0:1|n", "+0:|/", "+0:|:", "|N", "+0:1=|N", "+0:|\u0661",
            "+0:1|,"};
        for (String text : marked) {
            due("10: fault " + text, perform(x, text.replace("|", "")), -100 - text.indexOf('|'));
        }
        String full = "+0:1;+0:2;+0:3;+0:4;+0:5;+0:6;+0:7;+0:8;+0:9;-0:1;-0:2;-0:3;";
        due("10: fault behind the last place", perform(x, full), -160);
        due("10: a fault ahead of an error", perform(x, "+5:1;+0:01"), -109);
        due("10: no change", x.total(7) * 100 + x.total(2), 200);
    }

    private void performErrors() {
        SpreadingDeletes x = pair(NO_ACTION, true, -1);
        x.insert(1, 1, 1, -1);
        due("10: no table", perform(x, "+5:1"), UNKNOWN);
        due("10: no row", perform(x, "-0:3"), UNKNOWN);
        due("10: no column", perform(x, "@1:1.1=n"), UNKNOWN);
        due("10: value without a column", perform(x, "+0:5=1"), OUT_OF_RANGE);
        due("10: required", perform(x, "+1:5"), REQUIRED);
        due("10: no parent", perform(x, "+1:5=9"), NO_PARENT);
        due("10: refused", perform(x, "-0:1"), NOT_POSSIBLE);
        due("10: update required", perform(x, "@1:1.0=n"), REQUIRED);
        int states = x.total(7);
        due("10: all or none", perform(x, "+0:9;-0:2;@1:1.0=9;-0:1;+0:9;-0:2"), DUPLICATE);
        due("10: no insert", x.rows(0), 2);
        due("10: no update", x.value(1, 1, 0), 1);
        due("10: not counted", x.total(4) * 100 + x.total(5), 300);
        due("10: no latest deletion", x.deleted(0), NONE);
        due("10: not remembered", x.total(7), states);
        due("10: the first error", perform(x, "+0:9;+1:5;-0:1"), REQUIRED);
    }

    private void undo() {
        SpreadingDeletes x = new SpreadingDeletes();
        for (int change = 0; change < 6; change++) {
            x.addTable();
        }
        for (int left = 3; left >= 0; left--) {
            due("11: left", x.undo(), left);
            due("11: tables", x.total(0), left + 2);
            due("11: states", x.total(7), left);
        }
        due("11: empty", x.undo(), NONE);
        due("11: the oldest were dropped", x.total(0), 2);
        x.addTable();
        due("11: goes on", x.undo() + x.total(0), 2);
    }

    private void undoBringsBackEverything() {
        SpreadingDeletes x = pair(SET_NULL, false, 5);
        x.addReference(1, 1, CASCADE, true, 3);
        x.insert(1, 1, 1, 1);
        x.insert(1, 2, 1, 1);
        x.delete(1, 2);
        x.delete(0, 1);
        due("11: before", x.total(5) * 10 + x.total(6), 21);
        due("11: undo a deletion", x.undo(), 3);
        due("11: rows", x.rows(0), 2);
        due("11: values", x.value(1, 1, 0), 1);
        due("11: deleted so far", x.total(5), 1);
        due("11: changed so far", x.total(6), 0);
        due("11: latest deletion", x.deleted(0), 102);
        x.undo();
        due("11: no deletion yet", x.deleted(0), NONE);
        x.undo();
        due("11: inserted so far", x.total(4), 3);
        x.undo();
        due("11: reference stays", x.reference(1, 5), 3);
        due("11: column stays", x.insert(1, 9, 1, 9), 1);
        SpreadingDeletes y = tables(1);
        y.addReference(0, 0, CASCADE, true, 3);
        y.undo();
        due("11: no reference", y.reference(0, 0), UNKNOWN);
        due("11: no column", y.insert(0, 1, 1, -1), OUT_OF_RANGE);
        due("11: no column", y.insert(0, 1, -1, -1), 1);
    }

    private void keepAndRestore() {
        SpreadingDeletes x = pair(CASCADE, false, -1);
        x.insert(1, 1, 1, -1);
        due("13: no snapshot", x.restore(), NONE);
        int states = x.total(7);
        due("12: rows in all", x.keep(), 3);
        due("12: no change", x.total(7), states);
        x.delete(0, 1);
        x.addTable();
        x.setRule(0, SET_NULL);
        write(x, "+0:5");
        x.undo();
        x.undo();
        due("13: rows in all", x.restore(), 3);
        due("13: a change", x.total(7), 3);
        due("13: tables", x.total(0), 2);
        due("13: value", x.value(1, 1, 0), 1);
        due("13: deleted so far", x.total(5), 0);
        due("13: latest deletion", x.deleted(0), NONE);
        due("13: text stays", x.total(8), 4);
        due("13: undone", x.undo() + 10 * x.total(5), 2 + 20);
        due("13: the snapshot stays", x.restore(), 3);
        due("13: a change even if nothing differs", x.restore() + x.undo(), 6);
        x.insert(0, 50, -1, -1);
        due("13: the snapshot is a copy", x.restore(), 3);
        x.delete(1, 1);
        due("12: in place of the earlier one", x.keep(), 2);
        x.insert(0, 50, -1, -1);
        due("12: undo leaves the snapshot", x.undo() + x.restore(), 3 + 2);
        SpreadingDeletes z = tables(3);
        z.addReference(0, 1, RESTRICT, false, -1);
        z.keep();
        z.undo();
        z.addReference(2, 2, RESTRICT, true, -1);
        z.addReference(0, 2, RESTRICT, true, -1);
        z.restore();
        z.insert(1, 4, -1, -1);
        due("13: the columns as they were", z.insert(0, 1, 4, -1), 1);
        due("13: the columns as they were", z.value(2, 1, 0), UNKNOWN);
        SpreadingDeletes y = new SpreadingDeletes();
        due("12: empty store", y.keep(), 0);
        due("13: empty store", y.restore(), 0);
    }

    private void rowsAndKeyAt() {
        SpreadingDeletes x = tables(2);
        x.insert(1, 50, -1, -1);
        x.insert(1, 0, -1, -1);
        x.insert(1, 99, -1, -1);
        due("14: rows", x.rows(1), 3);
        due("14: no rows", x.rows(0), 0);
        due("14: no table", x.rows(2), UNKNOWN);
        due("14: negative table", x.rows(-1), UNKNOWN);
        due("14: far off", x.rows(Integer.MAX_VALUE), UNKNOWN);
        due("15: least", x.keyAt(1, 0), 0);
        due("15: next", x.keyAt(1, 1), 50);
        due("15: greatest", x.keyAt(1, 2), 99);
        due("15: no more", x.keyAt(1, 3), NONE);
        due("15: far off", x.keyAt(1, Integer.MAX_VALUE), NONE);
        due("15: negative rank", x.keyAt(1, -1), OUT_OF_RANGE);
        due("15: no table ahead of the rank", x.keyAt(2, -1), UNKNOWN);
        due("15: negative table", x.keyAt(-1, 0), UNKNOWN);
        x.delete(1, 0);
        due("15: after a deletion", x.keyAt(1, 0), 50);
        due("15: after a deletion", x.keyAt(1, 2), NONE);
        for (int key = 1; key < 19; key++) {
            x.insert(1, key, -1, -1);
        }
        due("15: twentieth", x.keyAt(1, 19), 99);
        due("15: beyond a full table", x.keyAt(1, 20), NONE);
    }

    private void value() {
        SpreadingDeletes x = pair(RESTRICT, false, -1);
        x.addReference(1, 1, RESTRICT, false, -1);
        x.insert(1, 5, 2, -1);
        due("16: value", x.value(1, 5, 0), 2);
        due("16: null", x.value(1, 5, 1), -1);
        due("16: no column", x.value(1, 5, 2), UNKNOWN);
        due("16: negative column", x.value(1, 5, -1), UNKNOWN);
        due("16: no columns", x.value(0, 1, 0), UNKNOWN);
        due("16: no row", x.value(1, 6, 0), UNKNOWN);
        due("16: negative key", x.value(1, -1, 0), UNKNOWN);
        due("16: key above", x.value(0, 105, 0), UNKNOWN);
        due("16: no table", x.value(2, 5, 0), UNKNOWN);
        due("16: negative table", x.value(-1, 5, 0), UNKNOWN);
    }

    private void children() {
        SpreadingDeletes x = pair(RESTRICT, false, -1);
        x.addReference(1, 1, RESTRICT, false, -1);
        x.insert(1, 1, 1, 1);
        x.insert(1, 2, 1, 1);
        x.insert(1, 3, -1, 1);
        due("17: two", x.children(0, 1), 2);
        due("17: none", x.children(0, 2), 0);
        due("17: itself counts", x.children(1, 1), 3);
        due("17: row of the parent table", x.children(1, 3), 0);
        due("17: no such row", x.children(0, 3), UNKNOWN);
        due("17: null is no row", x.children(0, -1), UNKNOWN);
        x.delete(1, 2);
        due("17: a deleted row is no child", x.children(0, 1), 1);
        due("17: a deleted row is no child", x.children(1, 1), 2);
        due("17: no reference", x.children(2, 1), UNKNOWN);
        due("17: negative reference", x.children(-1, 1), UNKNOWN);
    }

    private void reference() {
        SpreadingDeletes x = tables(3);
        x.addReference(2, 1, SET_DEFAULT, true, 77);
        x.addReference(0, 0, RESTRICT, false, -1);
        x.addReference(2, 0, SET_NULL, false, 0);
        int[][] facts = {{2, 1, 0, 4, 1, 77}, {0, 0, 0, 0, 0, -1}, {2, 0, 1, 3, 0, 0}};
        for (int reference = 0; reference < 3; reference++) {
            for (int what = 0; what < 6; what++) {
                due("18: " + reference + " " + what, x.reference(reference, what), facts[reference][what]);
            }
        }
        due("18: what above", x.reference(0, 6), OUT_OF_RANGE);
        due("18: what below", x.reference(2, -1), OUT_OF_RANGE);
        due("18: no reference", x.reference(3, 6), UNKNOWN);
        due("18: negative reference", x.reference(-1, 0), UNKNOWN);
    }

    private void deleted() {
        SpreadingDeletes x = pair(CASCADE, false, -1);
        x.insert(1, 8, 1, -1);
        x.insert(1, 3, 1, -1);
        due("19: negative", x.deleted(-1), OUT_OF_RANGE);
        due("19: nothing yet", x.deleted(0), NONE);
        x.delete(0, 1);
        due("19: first", x.deleted(0), 103);
        due("19: second", x.deleted(1), 108);
        due("19: third", x.deleted(2), 1);
        due("19: no more", x.deleted(3), NONE);
        due("19: far off", x.deleted(Integer.MAX_VALUE), NONE);
        due("19: range", x.deleted(Integer.MIN_VALUE), OUT_OF_RANGE);
        x.delete(0, 1);
        x.insert(0, 1, -1, -1);
        due("19: stays after other calls", x.deleted(0), 103);
        perform(x, "-0:1;-0:2;+0:5");
        due("19: the latest statement", x.deleted(0), 2);
        due("19: the latest alone", x.deleted(1), NONE);
    }

    private void total() {
        SpreadingDeletes x = pair(SET_NULL, false, -1);
        x.addReference(1, 1, CASCADE, false, -1);
        x.insert(1, 1, 1, 1);
        x.insert(1, 2, 1, -1);
        x.insert(1, 3, -1, -1);
        due("20: tables", x.total(0), 2);
        due("20: references", x.total(1), 2);
        due("20: rows", x.total(2), 5);
        due("20: nulls, of columns that there are", x.total(3), 3);
        due("20: inserted", x.total(4), 5);
        due("20: deleted", x.total(5), 0);
        due("20: changed", x.total(6), 0);
        x.update(1, 3, 0, 1);
        due("20: updates do not count", x.total(6), 0);
        x.delete(0, 1);
        due("20: rows", x.total(2), 4);
        due("20: nulls", x.total(3), 5);
        due("20: inserted stays", x.total(4), 5);
        due("20: deleted", x.total(5), 1);
        due("20: changed", x.total(6), 3);
        due("20: states", x.total(7), 4);
        x.type('a');
        due("20: text", x.total(8), 1);
        due("20: above", x.total(9), OUT_OF_RANGE);
        due("20: below", x.total(-1), OUT_OF_RANGE);
    }

    private void gathered() {
        SpreadingDeletes x = tables(3);
        x.addReference(2, 0, CASCADE, false, -1);
        x.addReference(1, 0, CASCADE, false, -1);
        x.addReference(2, 1, CASCADE, false, -1);
        x.insert(0, 1, -1, -1);
        x.insert(1, 9, 1, -1);
        x.insert(1, 4, 1, -1);
        x.insert(2, 7, 1, 4);
        x.insert(2, 6, -1, 9);
        x.insert(2, 5, -1, 4);
        x.insert(2, 8, 1, -1);
        int[] order = {207, 208, 205, 104, 206, 109, 1};
        for (int index = 0; index < order.length; index++) {
            due("21: by the numbers of the references, then by keys " + index, x.gathered(0, 1, index), order[index]);
        }
        due("21: no more", x.gathered(0, 1, 7), NONE);
        due("21: no children", x.gathered(2, 5, 0), 205);
        due("21: itself alone", x.gathered(2, 5, 1), NONE);
        due("21: far off", x.gathered(0, 1, Integer.MAX_VALUE), NONE);
        due("21: negative", x.gathered(0, 1, -1), OUT_OF_RANGE);
        due("21: no row ahead of the index", x.gathered(0, 2, -1), UNKNOWN);
        due("21: no table", x.gathered(3, 1, 0), UNKNOWN);
        x.setRule(2, SET_NULL);
        int[] fewer = {207, 208, 104, 109, 1};
        for (int index = 0; index < fewer.length; index++) {
            due("21: cascade alone " + index, x.gathered(0, 1, index), fewer[index]);
        }
        x.setRule(2, RESTRICT);
        due("21: also if refused", x.gathered(0, 1, 4), 1);
        due("21: also if refused", x.reason(0, 1), 1);
        SpreadingDeletes y = pair(CASCADE, false, -1);
        y.insert(1, 3, 1, -1);
        y.insert(1, 4, 1, -1);
        y.delete(1, 4);
        due("21: deleted rows are not gathered", y.gathered(0, 1, 0), 103);
        due("21: deleted rows are not gathered", y.gathered(0, 1, 1), 1);
        y.delete(1, 3);
        due("21: deleted rows are not gathered", y.gathered(0, 1, 0), 1);
    }

    private void gatheredInRings() {
        SpreadingDeletes x = loops(CASCADE, 4);
        due("21: own parent", x.gathered(0, 3, 0), 3);
        due("21: own parent", x.gathered(0, 3, 1), NONE);
        x.update(0, 1, 0, 2);
        x.update(0, 2, 0, 3);
        x.update(0, 3, 0, 1);
        x.update(0, 4, 0, 2);
        int[] order = {4, 2, 3, 1};
        for (int index = 0; index < order.length; index++) {
            due("21: ring from 1 " + index, x.gathered(0, 1, index), order[index]);
        }
        due("21: ring from 2", x.gathered(0, 2, 0), 3);
        due("21: ring from 2", x.gathered(0, 2, 1), 1);
        due("21: ring from 2", x.gathered(0, 2, 2), 4);
        due("21: ring from 2", x.gathered(0, 2, 3), 2);
        due("21: a ring is deleted whole", x.delete(0, 3), 4);
        due("21: empty", x.rows(0), 0);
    }

    private void gatheredDeep() {
        SpreadingDeletes x = tables(6);
        x.addReference(0, 5, CASCADE, false, -1);
        for (int table = 1; table < 6; table++) {
            x.addReference(table, table - 1, CASCADE, false, -1);
        }
        for (int key = 0; key < 20; key++) {
            for (int table = 0; table < 6; table++) {
                int parent = table == 0 ? key - 1 : key;
                x.insert(table, key, parent, -1);
            }
        }
        x.update(0, 0, 0, 19);
        due("21: a ring of all rows", x.isInRing(3, 10), 1);
        due("21: last of a chain of 120", x.gathered(0, 0, 119), 0);
        due("21: first of a chain of 120", x.gathered(0, 0, 0), 519);
        due("21: in between", x.gathered(0, 0, 60), 509);
        due("21: deletes all", x.delete(2, 7), 120);
        due("21: deleted", x.deleted(119), 207);
        due("21: deleted", x.deleted(120), NONE);
        due("21: deleted so far", x.total(5), 120);
        due("21: no rows", x.total(2), 0);
    }

    private void reasonAndBlocking() {
        int[] rules = {RESTRICT, NO_ACTION, CASCADE, SET_NULL, SET_DEFAULT};
        int[] free = {1, 2, 0, 0, 0};
        int[] bound = {1, 2, 0, 3, 3};
        for (int rule : rules) {
            SpreadingDeletes x = pair(rule, false, -1);
            SpreadingDeletes y = pair(rule, true, -1);
            for (int key = 4; key >= 3; key--) {
                x.insert(1, key, 1, -1);
                y.insert(1, key, 1, -1);
            }
            due("22: rule " + rule, x.reason(0, 1), free[rule]);
            due("22: required, rule " + rule, y.reason(0, 1), bound[rule]);
            due("23: rule " + rule, x.blocking(0, 1), free[rule] == 0 ? NONE : 103);
            due("23: required, rule " + rule, y.blocking(0, 1), bound[rule] == 0 ? NONE : 103);
            due("22: without children", x.reason(0, 2), 0);
            due("23: without children", x.blocking(0, 2), NONE);
            due("23: again, behind another row", x.blocking(0, 1), free[rule] == 0 ? NONE : 103);
            due("22: a child itself", x.reason(1, 3), 0);
        }
        SpreadingDeletes x = pair(RESTRICT, false, -1);
        due("22: no row", x.reason(0, 3), UNKNOWN);
        due("22: no table", x.reason(2, 1), UNKNOWN);
        due("22: negative", x.reason(-1, -1), UNKNOWN);
        due("23: no row", x.blocking(0, 3), UNKNOWN);
        due("23: no table", x.blocking(2, 1), UNKNOWN);
        due("23: negative", x.blocking(-1, -1), UNKNOWN);
    }

    private void reasonOfGatheredChildren() {
        for (int rule = 0; rule <= 4; rule++) {
            due("22: own parent " + rule, loops(rule, 1).reason(0, 1), 0);
            // Row 3 of table 1 goes with row 1 by the column 0, and is its child by the column 1, too.
            SpreadingDeletes x = tables(2);
            x.addReference(1, 0, CASCADE, false, -1);
            x.addReference(1, 0, rule, true, 99);
            x.insert(0, 1, -1, -1);
            x.insert(1, 3, 1, 1);
            due("22: gathered child " + rule, x.reason(0, 1), rule == RESTRICT ? 1 : 0);
            due("23: gathered child " + rule, x.blocking(0, 1), rule == RESTRICT ? 103 : NONE);
            due("24: gathered child " + rule, x.wouldChange(0, 1), rule == RESTRICT ? NOT_POSSIBLE : 0);
        }
        // Own parent by one column does not excuse a child by the other one.
        SpreadingDeletes x = tables(1);
        x.addReference(0, 0, RESTRICT, false, -1);
        x.addReference(0, 0, RESTRICT, false, -1);
        x.insert(0, 1, -1, -1);
        x.insert(0, 2, 2, 1);
        due("22: own parent by the other column", x.reason(0, 1), 1);
        due("22: own parent", x.reason(0, 2), 0);
        SpreadingDeletes y = tables(2);
        y.addReference(1, 0, RESTRICT, false, -1);
        y.insert(0, 1, -1, -1);
        y.insert(1, 1, 1, -1);
        due("22: the same key in another table is no own parent", y.reason(0, 1), 1);
    }

    private void reasonOfDefaults() {
        SpreadingDeletes x = pair(SET_DEFAULT, false, 5);
        x.insert(1, 3, 1, -1);
        due("22: no row with the default", x.reason(0, 1), 4);
        due("23: no row with the default", x.blocking(0, 1), 103);
        x.insert(0, 5, -1, -1);
        due("22: there is one", x.reason(0, 1), 0);
        due("24: there is one", x.wouldChange(0, 1), 1);
        x.update(1, 3, 0, 5);
        due("22: the row itself is the default", x.reason(0, 5), 4);
        SpreadingDeletes y = tables(2);
        y.addReference(0, 0, CASCADE, false, -1);
        y.addReference(1, 0, SET_DEFAULT, true, 2);
        y.insert(0, 1, -1, -1);
        y.insert(0, 2, 1, -1);
        y.insert(1, 9, 1, -1);
        due("22: the default goes, too", y.reason(0, 1), 4);
        due("22: the default goes alone", y.reason(0, 2), 0);
        y.update(0, 2, 0, -1);
        due("22: the default stays", y.reason(0, 1), 0);
        SpreadingDeletes z = tables(3);
        z.addReference(1, 0, SET_DEFAULT, false, 7);
        z.insert(0, 1, -1, -1);
        z.insert(1, 7, 1, -1);
        z.insert(2, 7, -1, -1);
        due("22: the default is sought in the parent table", z.reason(0, 1), 4);
        SpreadingDeletes w = tables(1);
        w.addReference(0, 0, SET_DEFAULT, false, 2);
        w.insert(0, 1, -1, -1);
        w.insert(0, 2, 1, -1);
        due("22: the child itself may become its parent", w.reason(0, 1), 0);
        due("7: the child itself may become its parent", w.delete(0, 1) + w.value(0, 2, 0), 1 + 2);
    }

    private void firstReason() {
        SpreadingDeletes x = tables(3);
        x.addReference(2, 0, NO_ACTION, false, -1);
        x.addReference(1, 0, RESTRICT, false, -1);
        x.addReference(1, 0, SET_NULL, true, -1);
        x.insert(0, 1, -1, -1);
        x.insert(0, 2, -1, -1);
        x.insert(1, 1, 2, 1);
        x.insert(1, 2, 1, 1);
        due("22: references ahead of keys", x.reason(0, 1), 1);
        due("23: references ahead of keys", x.blocking(0, 1), 102);
        x.insert(2, 50, 1, -1);
        x.insert(2, 40, 1, -1);
        due("22: the first reference", x.reason(0, 1), 2);
        due("23: the least key", x.blocking(0, 1), 240);
        x.setRule(0, CASCADE);
        x.setRule(1, SET_NULL);
        due("22: the last reference", x.reason(0, 1), 3);
        due("23: the last reference", x.blocking(0, 1), 101);
        // A reason may come from a row that is gathered late.
        SpreadingDeletes y = tables(3);
        y.addReference(1, 0, CASCADE, false, -1);
        y.addReference(2, 1, RESTRICT, false, -1);
        y.insert(0, 1, -1, -1);
        y.insert(1, 2, 1, -1);
        y.insert(2, 3, 2, -1);
        due("22: by a grandchild", y.reason(0, 1), 1);
        due("23: by a grandchild", y.blocking(0, 1), 203);
    }

    private void wouldChange() {
        SpreadingDeletes x = tables(3);
        x.addReference(1, 0, CASCADE, false, -1);
        x.addReference(2, 1, SET_NULL, false, -1);
        x.addReference(2, 0, SET_DEFAULT, false, 2);
        x.insert(0, 1, -1, -1);
        x.insert(0, 2, -1, -1);
        x.insert(1, 1, 1, -1);
        x.insert(1, 2, 2, -1);
        x.insert(2, 1, 1, 1);
        x.insert(2, 2, 2, 1);
        due("24: both values of a row", x.wouldChange(0, 1), 3);
        due("24: one value", x.wouldChange(1, 2), 1);
        due("24: nothing", x.wouldChange(2, 2), 0);
        due("24: nothing changes", x.value(2, 1, 1), 1);
        due("24: nothing is counted", x.total(6), 0);
        x.setRule(2, NO_ACTION);
        due("24: refused", x.wouldChange(0, 1), NOT_POSSIBLE);
        due("24: no row", x.wouldChange(0, 3), UNKNOWN);
        due("24: no table", x.wouldChange(3, 1), UNKNOWN);
        SpreadingDeletes y = loops(SET_NULL, 2);
        due("24: a deleted row does not count", y.wouldChange(0, 1), 0);
    }

    private void isInRing() {
        SpreadingDeletes x = tables(3);
        x.addReference(0, 1, RESTRICT, false, -1);
        x.addReference(0, 2, SET_NULL, false, -1);
        x.addReference(1, 0, NO_ACTION, false, -1);
        x.addReference(2, 2, SET_DEFAULT, false, -1);
        x.insert(0, 1, -1, -1);
        x.insert(1, 1, 1, -1);
        due("25: no ring yet", x.isInRing(0, 1), 0);
        x.update(0, 1, 0, 1);
        due("25: ring of two tables", x.isInRing(0, 1), 1);
        due("25: ring of two tables", x.isInRing(1, 1), 1);
        x.insert(0, 2, 1, -1);
        due("25: leads to a ring, but not back", x.isInRing(0, 2), 0);
        x.insert(2, 5, 5, -1);
        due("25: own parent", x.isInRing(2, 5), 1);
        x.update(0, 2, 1, 5);
        due("25: both ways lead to rings", x.isInRing(0, 2), 0);
        x.insert(2, 6, -1, -1);
        x.insert(2, 7, 6, -1);
        due("25: a row with a child", x.isInRing(2, 6), 0);
        due("25: a row with a parent", x.isInRing(2, 7), 0);
        x.update(2, 6, 0, 7);
        due("25: ring of two rows", x.isInRing(2, 6) + x.isInRing(2, 7), 2);
        due("25: no row", x.isInRing(2, 8), UNKNOWN);
        due("25: no table", x.isInRing(3, 1), UNKNOWN);
        due("25: negative", x.isInRing(-1, 1), UNKNOWN);
        SpreadingDeletes y = tables(2);
        y.addReference(0, 1, CASCADE, false, -1);
        y.addReference(0, 0, CASCADE, false, -1);
        y.insert(1, 1, -1, -1);
        y.insert(0, 1, 1, -1);
        due("25: the same key in another table", y.isInRing(0, 1), 0);
        y.insert(0, 2, 1, 1);
        y.update(0, 1, 1, 2);
        due("25: by the column 1", y.isInRing(0, 1), 1);
        due("25: the ring leads to it", y.isInRing(1, 1), 0);
        SpreadingDeletes z = tables(1);
        z.addReference(0, 0, CASCADE, false, -1);
        z.insert(0, 1, -1, -1);
        z.insert(0, 2, 1, -1);
        due("25: a child", z.isInRing(0, 2), 0);
        due("25: its parent", z.isInRing(0, 1), 0);
    }

    private void deletable() {
        int[] unchanged = {1, 1, 1, 2, 2};
        for (int rule = 0; rule <= 4; rule++) {
            SpreadingDeletes x = pair(rule, false, -1);
            x.insert(1, 3, 1, -1);
            x.insert(1, 4, -1, -1);
            due("26: rule " + rule, x.deletable(0), unchanged[rule]);
            due("26: children " + rule, x.deletable(1), 2);
            due("26: nothing is deleted", x.rows(0), 2);
        }
        SpreadingDeletes x = loops(CASCADE, 3);
        due("26: own parents", x.deletable(0), 3);
        x.update(0, 1, 0, 2);
        due("26: one with a child", x.deletable(0), 2);
        due("26: no table", x.deletable(1), UNKNOWN);
        due("26: negative table", x.deletable(-1), UNKNOWN);
        due("26: empty table", tables(1).deletable(0), 0);
        SpreadingDeletes y = tables(1);
        for (int key = 0; key < 20; key++) {
            y.insert(0, key, -1, -1);
        }
        due("26: twenty", y.deletable(0), 20);
    }

    /** Errors, NONE and questions leave the state and the history as they are. */
    private void refusalsChangeNothing() {
        SpreadingDeletes x = pair(RESTRICT, true, -1);
        x.insert(1, 1, 1, -1);
        x.delete(1, 1);
        x.insert(1, 1, 1, -1);
        int[] before = totals(x);
        x.addReference(1, 0, 0, false, -1);
        x.setRule(0, RESTRICT);
        x.insert(0, 1, -1, -1);
        x.insert(1, 5, 9, -1);
        x.update(1, 1, 0, 1);
        x.update(1, 1, 0, -1);
        x.delete(0, 1);
        x.delete(0, 9);
        x.restore();
        x.gathered(0, 1, 0);
        x.reason(0, 1);
        x.blocking(0, 1);
        x.wouldChange(0, 2);
        x.isInRing(0, 1);
        x.deletable(0);
        x.keep();
        int[] after = totals(x);
        for (int what = 0; what < before.length; what++) {
            due("nothing changes " + what, after[what], before[what]);
        }
        due("nothing changes", x.deleted(0), 101);
        due("nothing changes", x.deleted(1), NONE);
    }

    private static int[] totals(SpreadingDeletes x) {
        int[] totals = new int[9];
        for (int what = 0; what < totals.length; what++) {
            totals[what] = x.total(what);
        }
        return totals;
    }
}
