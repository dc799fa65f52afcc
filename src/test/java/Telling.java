import java.util.function.LongSupplier;

/**
 * All that an object tells, as one text: first what can be asked without a change, then what only
 * later calls bring out (when cursors end, what readers give next, what is still NEW). At most 200
 * calls, so that with a past of 300 calls an object stays within its 512.
 */
final class Telling {
    static final int WAYS = 3;
    private static final int MOST_CALLS = 200;

    private final GroupCursors x;
    private final StringBuilder text = new StringBuilder();
    private int calls = 0;

    private Telling(GroupCursors x) {
        this.x = x;
    }

    static String of(GroupCursors x, int way) {
        Telling t = new Telling(x);
        t.tellWhatStands();
        if (way == 0) {
            t.tellByTime();
        } else if (way == 1) {
            t.tellByReading();
        } else {
            t.tellByCommit();
        }
        if (t.calls > MOST_CALLS) {
            throw new AssertionError(t.calls + " calls are too many for one telling");
        }
        return t.text.toString();
    }

    private void tell(String what, LongSupplier call) {
        calls++;
        text.append(what).append(' ').append(Due.outcome(call::getAsLong)).append("; ");
    }

    private void tellRow(String what, int from, int to, java.util.function.IntToLongFunction call) {
        for (int i = Math.max(from, 0); i < to; i++) {
            int k = i;
            tell(what + i, () -> call.applyAsLong(k));
        }
    }

    private void tellWhatStands() {
        tellRow("told ", 0, 12, x::told);
        tellObjects(0, Math.min(x.told(0), 7));
        tellObjects(Math.max(x.told(0) - 1, 7), x.told(0));
        tellSegments(0, Math.min(x.told(2), 3));
        tellSegments(Math.max(x.told(2) - 1, 3), x.told(2));
        tellViews(0, Math.min(x.told(6), 3));
        tellViews(Math.max(x.told(6) - 1, 3), x.told(6));
        tellRow("left ", 0, Math.min(x.told(8), 5), x::left);
        tellRow("left ", Math.max(x.told(8) - 1, 5), x.told(8), x::left);
        tellRow("page ", 0, Math.min(x.told(11), 3) + 1, x::page);
        calls += 12;
    }

    private void tellObjects(int from, int to) {
        for (int i = from; i < to; i++) {
            int object = i;
            tellRow("object " + i + " ", 0, 5, what -> x.object(object, what));
        }
    }

    private void tellSegments(int from, int to) {
        for (int i = from; i < to; i++) {
            int segment = i;
            tellRow("segment " + i + " ", 0, 3, what -> x.segment(segment, what));
        }
    }

    private void tellViews(int from, int to) {
        for (int i = from; i < to; i++) {
            int view = i;
            tell("state " + i, () -> x.state(view));
            tell("size " + i, () -> x.size(view));
            tell("groups " + i, () -> x.groups(view));
            tellRow("hit " + i + " ", 0, 4, k -> x.hit(view, 0, 0, k));
            tell("counted " + i, () -> x.counted(view, 2, 5, 0));
        }
    }

    private void tellByTime() {
        for (int i = 0; i < 6; i++) {
            tell("tick", () -> x.tick(1));
            tellRow("left ", 0, Math.min(x.told(8), 5), x::left);
            calls++;
        }
        tellRow("state ", 0, Math.min(x.told(6), 3), x::state);
        calls++;
    }

    private void tellByReading() {
        for (int i = 0; i < Math.min(x.told(8), 5); i++) {
            int reader = i;
            tell("next " + i, () -> x.next(reader));
            tell("take " + i, () -> x.take(reader, 1));
            tell("page", () -> x.page(0));
            tell("left " + i, () -> x.left(reader));
            calls++;
        }
        tell("tick", () -> x.tick(3));
        tell("told 9", () -> x.told(9));
    }

    private void tellByCommit() {
        tell("add", () -> x.add(1, 2, 3));
        tell("told 1", () -> x.told(1));
        tell("commit", x::commit);
        tell("merge", () -> x.merge(1000));
        tell("view", x::view);
        tellRow("home ", 0, Math.min(x.told(0), 7), i -> x.object(i, 3));
        tellRow("letGo ", 0, Math.min(x.told(6), 4), x::letGo);
        tellRow("close ", 0, Math.min(x.told(8), 5), x::close);
        tellRow("told ", 0, 12, x::told);
        calls += 3;
    }
}
