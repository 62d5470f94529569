/** Plays many runs of made-up calls on the program and on the model, and compares the answers. */
public final class ModelTest {
    private static final int RUNS = 3000;
    private static final int CALLS = 512;
    private static final int[] WILD = {Integer.MIN_VALUE, -100, -2, -1, 6, 12, 20, 21, 99, 100, Integer.MAX_VALUE};
    private static final String SIGNS = "+-@:.=,;n0123456789 \u00e9\uffff";

    private final Check check = new Check();
    private long seed;
    private SpreadingDeletes program;
    private Model model;
    private int calls;
    private int keys;
    private int wildness;

    public static void main(String[] args) {
        ModelTest test = new ModelTest();
        for (int run = 1; run <= RUNS && test.check.wrong() == 0; run++) {
            test.play(run);
        }
        test.check.end();
    }

    private void play(int run) {
        seed = run * 7919L + 17;
        program = new SpreadingDeletes();
        model = new Model();
        calls = 0;
        keys = new int[] {3, 5, 8, 22, 100}[pick(5)];
        wildness = new int[] {0, 3, 10}[pick(3)];
        int tables = 1 + pick(6);
        for (int table = 0; table < tables; table++) {
            play("addTable", 0, 0, 0, 0);
        }
        int references = pick(2 * tables + 2);
        for (int reference = 0; reference < references; reference++) {
            addReference();
        }
        while (calls < CALLS && check.wrong() == 0) {
            playAny();
        }
    }

    private int pick(int bound) {
        seed = seed * 6364136223846793005L + 1442695040888963407L;
        return (int) Math.floorMod(seed >>> 33, (long) bound);
    }

    private int some(int number) {
        return pick(100) < wildness ? WILD[pick(WILD.length)] : number;
    }

    private int table() {
        return some(pick(Math.max(1, model.total(0))));
    }

    private int reference() {
        return some(pick(Math.max(1, model.total(1))));
    }

    /** Mostly the key of a row, if the table has one. */
    private int key(int table) {
        int count = model.rows(table);
        return some(count > 0 && pick(8) > 0 ? model.keyAt(table, pick(count)) : pick(keys));
    }

    /** Mostly a value that the column takes, which the model tells without a call of the program. */
    private int value(int table, int column) {
        for (int reference = 0; reference < model.total(1); reference++) {
            if (model.reference(reference, 0) == table && model.reference(reference, 2) == column) {
                return pick(5) == 0 ? -1 : key(model.reference(reference, 1));
            }
        }
        return some(-1);
    }

    private void addReference() {
        play("addReference", table(), table(), some(pick(5)), some(pick(2) == 0 ? -1 : pick(keys)));
    }

    private void playAny() {
        int table = table();
        int key = key(table);
        int column = some(pick(2));
        switch (pick(26)) {
            case 0, 1, 2, 3, 4, 5 -> play("insert", table, some(pick(keys)), value(table, 0), value(table, 1));
            case 6, 7 -> play("update", table, key, column, value(table, column));
            case 8 -> play("delete", table, key, 0, 0);
            case 9 -> play("setRule", reference(), some(pick(5)), 0, 0);
            case 10 -> playText();
            case 11 -> play(pick(2) == 0 ? "undo" : pick(2) == 0 ? "keep" : "restore", 0, 0, 0, 0);
            case 12 -> play("keyAt", table, some(pick(6)), 0, 0);
            case 13 -> play("value", table, key, column, 0);
            case 14 -> play("children", reference(), some(pick(keys)), 0, 0);
            case 15 -> play("reference", reference(), some(pick(6)), 0, 0);
            case 16 -> play("deleted", some(pick(6)), 0, 0, 0);
            case 17 -> play("total", some(pick(9)), 0, 0, 0);
            case 18 -> play("gathered", table, key, some(pick(8)), 0);
            case 19 -> play("reason", table, key, 0, 0);
            case 20 -> play("blocking", table, key, 0, 0);
            case 21 -> play("wouldChange", table, key, 0, 0);
            case 22 -> play("isInRing", table, key, 0, 0);
            case 23 -> play("deletable", table, 0, 0, 0);
            case 24 -> play("rows", table, 0, 0, 0);
            default -> {
                if (pick(12) == 0) {
                    addReference();
                } else if (pick(20) == 0) {
                    play("addTable", 0, 0, 0, 0);
                }
            }
        }
    }

    private void playText() {
        if (pick(4) > 0) {
            play("clearText", 0, 0, 0, 0);
        }
        StringBuilder text = new StringBuilder(statement());
        for (int more = pick(4); more > 0; more--) {
            text.append(';').append(statement());
        }
        for (int index = 0; index < text.length() && calls < CALLS; index++) {
            play("type", pick(100) == 0 ? SIGNS.charAt(pick(SIGNS.length())) : text.charAt(index), 0, 0, 0);
        }
        play("perform", 0, 0, 0, 0);
    }

    private String statement() {
        int table = pick(Math.max(1, model.total(0)));
        String row = table + ":";
        return switch (pick(4)) {
            case 0 -> "-" + row + Math.abs(key(table) % 100);
            case 1 -> "@" + row + Math.abs(key(table) % 100) + "." + pick(2) + "=" + word(value(table, pick(2)));
            default -> "+" + row + pick(keys) + switch (pick(3)) {
                case 0 -> "";
                case 1 -> "=" + word(value(table, 0));
                default -> "=" + word(value(table, 0)) + "," + word(value(table, 1));
            };
        };
    }

    private static String word(int value) {
        return value == -1 ? "n" : Integer.toString(Math.abs(value % 1000));
    }

    private void play(String call, int a, int b, int c, int d) {
        calls++;
        if (calls > CALLS || check.wrong() > 0) {
            return;
        }
        boolean flag = Math.floorMod(a + b + d, 3) == 0;
        String told = "seed " + seed + ", call " + calls + ": " + call + "(" + a + ", " + b + ", " + c + ", " + d + ")";
        check.due(told, onProgram(call, a, b, c, d, flag), onModel(call, a, b, c, d, flag));
    }

    private int onProgram(String call, int a, int b, int c, int d, boolean flag) {
        SpreadingDeletes x = program;
        return switch (call) {
            case "addTable" -> x.addTable();
            case "addReference" -> x.addReference(a, b, c, flag, d);
            case "setRule" -> x.setRule(a, b);
            case "insert" -> x.insert(a, b, c, d);
            case "update" -> x.update(a, b, c, d);
            case "delete" -> x.delete(a, b);
            case "type" -> x.type((char) a);
            case "clearText" -> x.clearText();
            case "perform" -> x.perform();
            case "undo" -> x.undo();
            case "keep" -> x.keep();
            case "restore" -> x.restore();
            case "rows" -> x.rows(a);
            case "keyAt" -> x.keyAt(a, b);
            case "value" -> x.value(a, b, c);
            case "children" -> x.children(a, b);
            case "reference" -> x.reference(a, b);
            case "deleted" -> x.deleted(a);
            case "total" -> x.total(a);
            case "gathered" -> x.gathered(a, b, c);
            case "reason" -> x.reason(a, b);
            case "blocking" -> x.blocking(a, b);
            case "wouldChange" -> x.wouldChange(a, b);
            case "isInRing" -> x.isInRing(a, b);
            default -> x.deletable(a);
        };
    }

    private int onModel(String call, int a, int b, int c, int d, boolean flag) {
        Model x = model;
        return switch (call) {
            case "addTable" -> x.addTable();
            case "addReference" -> x.addReference(a, b, c, flag, d);
            case "setRule" -> x.setRule(a, b);
            case "insert" -> x.insert(a, b, c, d);
            case "update" -> x.update(a, b, c, d);
            case "delete" -> x.delete(a, b);
            case "type" -> x.type((char) a);
            case "clearText" -> x.clearText();
            case "perform" -> x.perform();
            case "undo" -> x.undo();
            case "keep" -> x.keep();
            case "restore" -> x.restore();
            case "rows" -> x.rows(a);
            case "keyAt" -> x.keyAt(a, b);
            case "value" -> x.value(a, b, c);
            case "children" -> x.children(a, b);
            case "reference" -> x.reference(a, b);
            case "deleted" -> x.deleted(a);
            case "total" -> x.total(a);
            case "gathered" -> x.gathered(a, b, c);
            case "reason" -> x.reason(a, b);
            case "blocking" -> x.blocking(a, b);
            case "wouldChange" -> x.wouldChange(a, b);
            case "isInRing" -> x.isInRing(a, b);
            default -> x.deletable(a);
        };
    }
}
