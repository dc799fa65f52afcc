import java.util.function.Consumer;
import java.util.function.ToLongFunction;

/**
 * Two objects with the same past: one gets a call that is to change nothing, the other does not;
 * then both tell all they know, and it must be the same.
 */
final class Twins {
    private final Due due;
    private final Consumer<GroupCursors> past;

    Twins(Due due, Consumer<GroupCursors> past) {
        this.due = due;
        this.past = past;
    }

    GroupCursors one() {
        GroupCursors x = new GroupCursors();
        past.accept(x);
        return x;
    }

    void outOfBounds(String what, ToLongFunction<GroupCursors> call) {
        changesNothing(what, "throws.IndexOutOfBoundsException", call);
    }

    void wrongArgument(String what, ToLongFunction<GroupCursors> call) {
        changesNothing(what, "throws.IllegalArgumentException", call);
    }

    void wrongState(String what, ToLongFunction<GroupCursors> call) {
        changesNothing(what, "throws.IllegalStateException", call);
    }

    void noElement(String what, ToLongFunction<GroupCursors> call) {
        changesNothing(what, "throws.NoSuchElementException", call);
    }

    void full(String what, ToLongFunction<GroupCursors> call) {
        changesNothing(what, "-4", call);
    }

    void changesNothing(String what, String want, ToLongFunction<GroupCursors> call) {
        for (int way = 0; way < Telling.WAYS; way++) {
            GroupCursors touched = one();
            due.compare(what, want, Due.outcome(() -> call.applyAsLong(touched)));
            due.compare(what + " changed something", Telling.of(one(), way), Telling.of(touched, way));
        }
    }

    /** The call is not refused, one beside the edge: it answers this. */
    void answers(String what, long want, ToLongFunction<GroupCursors> call) {
        GroupCursors x = one();
        due.is(what, want, () -> call.applyAsLong(x));
    }
}
