import java.util.ArrayList;
import java.util.List;

/**
 * What a store tells after some calls. A look plays the calls anew, so that it may ask, undo,
 * restore and perform as it likes without a trace in the store that a test goes on with.
 */
final class Look {
    private static final Player.Call UNDO = SpreadingDeletes::undo;
    private static final List<List<Player.Call>> BEHIND = List.of(List.of(), List.of(UNDO), List.of(UNDO, UNDO),
            List.of(UNDO, UNDO, UNDO), List.of(UNDO, UNDO, UNDO, UNDO), List.of(SpreadingDeletes::restore),
            List.of(SpreadingDeletes::perform));
    private static final int NONE = -9;

    private final List<Player.Call> calls;
    private final List<String> facts = new ArrayList<>();

    private Look(List<Player.Call> calls) {
        this.calls = calls;
    }

    /** The state alone: neither the text nor the history nor the snapshot. */
    static List<String> state(List<Player.Call> calls) {
        Look look = new Look(calls);
        look.seeTotals(0, 6);
        look.seeReferences();
        look.seeRows();
        look.seeLatestDeletion();
        return look.facts;
    }

    /** The state, the history, the snapshot and the text, as far as any call can tell them. */
    static List<String> all(List<Player.Call> calls) {
        List<String> facts = new ArrayList<>();
        for (int place = 0; place < BEHIND.size(); place++) {
            List<Player.Call> more = BEHIND.get(place);
            Player player = new Player(calls);
            for (Player.Call call : more) {
                facts.add("look " + place + " answers " + player.play(call));
            }
            List<Player.Call> longer = new ArrayList<>(calls);
            longer.addAll(more);
            Look look = new Look(longer);
            look.seeTotals(7, 8);
            facts.addAll(look.facts);
            facts.addAll(state(longer));
        }
        return facts;
    }

    private void see(String what, int answer) {
        facts.add(what + " = " + answer);
    }

    private void seeTotals(int first, int last) {
        Player player = new Player(calls);
        for (int total = first; total <= last; total++) {
            int what = total;
            see("total " + what, player.play(x -> x.total(what)));
        }
    }

    private void seeReferences() {
        Player player = new Player(calls);
        int count = player.play(x -> x.total(1));
        for (int place = 0; place < 6 * count; place++) {
            int reference = place / 6;
            int what = place % 6;
            see("reference " + reference + " " + what, player.play(x -> x.reference(reference, what)));
        }
    }

    private void seeRows() {
        int tables = new Player(calls).play(x -> x.total(0));
        for (int table = 0; table < tables; table++) {
            seeRows(table);
        }
    }

    private void seeRows(int table) {
        Player player = new Player(calls);
        int count = player.play(x -> x.rows(table));
        see("rows " + table, count);
        for (int place = 0; place < count; place++) {
            int rank = place;
            int key = player.play(x -> x.keyAt(table, rank));
            see("key " + table + " " + rank, key);
            see("value " + table + " " + key + " 0", player.play(x -> x.value(table, key, 0)));
            see("value " + table + " " + key + " 1", player.play(x -> x.value(table, key, 1)));
        }
    }

    private void seeLatestDeletion() {
        Player player = new Player(calls);
        int row = 0;
        for (int place = 0; row != NONE; place++) {
            int index = place;
            row = player.play(x -> x.deleted(index));
            see("deleted " + index, row);
        }
    }
}
