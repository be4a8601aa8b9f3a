import java.util.ArrayList;
import java.util.List;

/**
 * A run of calls on a new desk, each held against the answer that is due. Of a call that is due to
 * throw it is also looked whether it changes anything that later calls tell.
 */
final class Run {
    private static final int MOST_CALLS = 512;

    private final Due due;
    private final MemoryDesk desk = new MemoryDesk();
    private final List<Call> done = new ArrayList<>();
    private int calls;

    Run(Due due) {
        this.due = due;
    }

    /** A run on a desk of its own, for the same sentence. */
    Run anew() {
        return new Run(due);
    }

    /** Rows as they are written: "make(0, 1, -5) -> IllegalArgumentException". */
    Run rows(String... rows) {
        for (String row : rows) {
            int arrow = row.indexOf(" -> ");
            row(row.substring(0, arrow), row.substring(arrow + 4));
        }
        return this;
    }

    Run row(String written, Object answer) {
        Call call = Call.of(written);
        calls++;
        if (calls > MOST_CALLS) {
            throw new IllegalStateException("nothing is promised of call " + calls + ", " + call);
        }
        String want = answer.toString();
        due.answer(call.toString(), call.on(desk), want);
        if (want.endsWith("Exception")) {
            checkThatNothingChanges(call);
        } else {
            done.add(call);
        }
        return this;
    }

    /** Calls that all have the same answer. */
    Run each(String answer, String... calls) {
        for (String call : calls) {
            row(call, answer);
        }
        return this;
    }

    int calls() {
        return calls;
    }

    private void checkThatNothingChanges(Call refused) {
        int callsLeft = MOST_CALLS - done.size() - 1;
        List<String> want = Telling.of(this::again, callsLeft, refused);
        List<String> got = Telling.of(() -> againWith(refused), callsLeft, refused);
        for (int i = 0; i < want.size(); i++) {
            if (i >= got.size() || !got.get(i).equals(want.get(i))) {
                due.answer("a call behind " + refused, i < got.size() ? got.get(i) : "nothing", want.get(i));
                return;
            }
        }
        due.answer("all behind " + refused, got.size() + " answers", want.size() + " answers");
    }

    private MemoryDesk again() {
        MemoryDesk other = new MemoryDesk();
        for (Call call : done) {
            call.on(other);
        }
        return other;
    }

    private MemoryDesk againWith(Call refused) {
        MemoryDesk other = again();
        refused.on(other);
        return other;
    }
}
