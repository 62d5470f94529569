import java.util.List;

/** Plays calls on a new object, and never more of them than the document speaks of. */
final class Player {
    private static final int MOST_CALLS = 512;

    /** One call of one method. */
    interface Call {
        int on(SpreadingDeletes store);
    }

    private final SpreadingDeletes store = new SpreadingDeletes();
    private int count = 0;

    Player(List<Call> calls) {
        for (Call call : calls) {
            play(call);
        }
    }

    boolean isAtEnd() {
        return count >= MOST_CALLS;
    }

    int play(Call call) {
        count++;
        if (count > MOST_CALLS) {
            throw new IllegalStateException("behind the call 512 the answers are free");
        }
        return call.on(store);
    }
}
