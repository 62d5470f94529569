import java.util.ArrayList;
import java.util.List;

/**
 * A run of calls on a new object, and what is due after it. Each call is played twice: on an object
 * that has seen nothing but what leads there, and on one that has seen all that was asked before.
 */
final class Run {
    private static final int MOST_STATES = 4;

    private final Check check;
    private final List<Player.Call> calls;
    private final Player used;

    Run(Check check) {
        this(check, List.of());
    }

    private Run(Check check, List<Player.Call> calls) {
        this.check = check;
        this.calls = new ArrayList<>(calls);
        this.used = new Player(calls);
    }

    Run copy() {
        return new Run(check, calls);
    }

    /** Goes on with calls that lead to what a test is about; none of them may answer an error. */
    Run make(Player.Call... more) {
        for (Player.Call call : more) {
            int answer = answer(call);
            check.holds("call " + calls.size() + " on the way answered " + answer, answer >= -1);
            goOn("call " + calls.size() + " on the way", answer, call);
        }
        return this;
    }

    /** The same run with another text. */
    Run text(String text) {
        List<Player.Call> longer = with(SpreadingDeletes::clearText);
        for (char character : text.toCharArray()) {
            longer.add(x -> x.type(character));
        }
        return new Run(check, longer);
    }

    int answer(Player.Call call) {
        return new Player(calls).play(call);
    }

    /** A call with this answer; the run goes on with it. */
    Run answers(String told, int want, Player.Call call) {
        check.due(told, answer(call), want);
        goOn(told, want, call);
        return this;
    }

    /** A call with this answer, behind which everything is as it was; the run goes on without it. */
    Run still(String told, int want, Player.Call call) {
        check.due(told, answer(call), want);
        playBehindAll(told, want, call);
        same(told + " changes nothing", Look.all(calls), Look.all(with(call)));
        return this;
    }

    /** A change with this answer: it records the state ahead of it. The run goes on with it. */
    Run changes(String told, int want, Player.Call call) {
        int states = answer(x -> x.total(7));
        List<Player.Call> before = new ArrayList<>(calls);
        answers(told, want, call);
        int now = Math.min(MOST_STATES, states + 1);
        check.due(told + ", states", answer(x -> x.total(7)), now);
        List<Player.Call> after = with(SpreadingDeletes::undo);
        for (int left = now - 1; left >= 0; left--) {
            same(told + ", with " + left + " states left", Look.state(before), Look.state(after));
            before.add(SpreadingDeletes::undo);
            after.add(SpreadingDeletes::undo);
        }
        return this;
    }

    private void goOn(String told, int want, Player.Call call) {
        playBehindAll(told, want, call);
        calls.add(call);
    }

    private void playBehindAll(String told, int want, Player.Call call) {
        if (!used.isAtEnd()) {
            check.due(told + ", behind all others", used.play(call), want);
        }
    }

    /** Whether another run leads to the same state, whatever the ways. */
    void leadsTo(String told, Run other) {
        same(told, Look.state(other.calls), Look.state(calls));
    }

    private List<Player.Call> with(Player.Call call) {
        List<Player.Call> longer = new ArrayList<>(calls);
        longer.add(call);
        return longer;
    }

    private void same(String told, List<String> want, List<String> got) {
        for (int index = 0; index < Math.min(want.size(), got.size()); index++) {
            if (!want.get(index).equals(got.get(index))) {
                check.holds(told + ": «" + got.get(index) + "» where «" + want.get(index) + "» is due", false);
                return;
            }
        }
        check.due(told + ": facts", got.size(), want.size());
    }
}
