import java.util.function.ToLongFunction;

/**
 * "Of several exceptions the one named first; of IndexOutOfBoundsException, IllegalArgumentException,
 * IllegalStateException in this order. A call that throws changes nothing." For every call of the
 * face: each refused argument just beyond its edge and far beyond it, the edges themselves, which
 * are not refused, and two or three reasons at once. After each refusal the object is compared with
 * a twin that did not get the call.
 */
public final class RefusalsTest {
    private static final Due DUE = new Due();
    private static final Twins SAMPLE = new Twins(DUE, RefusalsTest::sample);

    // what the sample has
    private static final int OBJECTS = 6;
    private static final int SEGMENTS = 3;
    private static final int HELD_VIEW = 0;
    private static final int OPEN_VIEW = 1;
    private static final int ENDED_VIEW = 2;
    private static final int VIEWS = 3;
    private static final int CURSOR = 0;
    private static final int ITERATOR = 1;
    private static final int ENDED_CURSOR = 2;
    private static final int ENDED_ITERATOR = 3;
    private static final int READERS = 5;

    public static void main(String[] args) {
        theSampleIsWhatItSays();
        drop();
        object();
        segment();
        letGo();
        stateSizeGroups();
        hit();
        place();
        group();
        counted();
        best();
        cursorArguments();
        cursorOrder();
        iterator();
        take();
        page();
        next();
        leftAndClose();
        tick();
        tickAtTheLastNow();
        told();
        aRefusedCallOnANewObject();
        askingChangesNothing();
        DUE.end();
    }

    /** A state with one of everything, in few calls. */
    private static void sample(GroupCursors x) {
        x.add(10, 1, 5);
        x.add(20, 2, 4);
        x.add(10, 3, 3);
        x.commit();
        x.view();
        x.cursor(HELD_VIEW, 0, 0, 1, 0, 4);
        x.iterator(HELD_VIEW, 1, 0, -1);
        x.letGo(HELD_VIEW);
        x.add(20, 4, 2);
        x.commit();
        x.drop(1);
        x.merge(3);
        x.view();
        x.view();
        x.cursor(ENDED_VIEW, 0, 0, 1, 0, 1);
        x.iterator(ENDED_VIEW, 0, 0, 0);
        x.next(ENDED_ITERATOR);
        x.close(ENDED_CURSOR);
        x.letGo(ENDED_VIEW);
        x.add(30, 5, 1);
        x.add(30, 6, 0);
        x.drop(5);
        x.cursor(OPEN_VIEW, 1, 7, 1, 0, 2);
        x.tick(1);
        x.take(CURSOR, 2);
        x.next(ITERATOR);
    }

    private static void theSampleIsWhatItSays() {
        GroupCursors x = SAMPLE.one();
        DUE.are("told", "6 1 3 1 1 1 3 2 5 3 1 2", 12, x::told);
        DUE.are("states", "1 0 2", 3, x::state);
        DUE.are("left", "1 2 -1 -1 3", 5, x::left);
        DUE.are("sizes", "3 3 0", 3, x::size);
        DUE.are("groups", "2 2 0", 3, x::groups);
    }

    private interface Numbered {
        long call(GroupCursors x, int number);
    }

    /** Of numbers 0 to n less 1: those beyond are refused; with none at all, 0 is too. */
    private static void refusesBeyond(String what, int n, Numbered call) {
        for (int number : new int[] {-1, n, n + 1, 300, Integer.MIN_VALUE, Integer.MAX_VALUE}) {
            if (number < 0 || number >= n) {
                SAMPLE.outOfBounds(what + " " + number, x -> call.call(x, number));
            }
        }
    }

    private static void refusesKinds(String what, Numbered call) {
        for (int kind : new int[] {-1, 3, Integer.MIN_VALUE, Integer.MAX_VALUE}) {
            SAMPLE.wrongArgument(what + " by kind " + kind, x -> call.call(x, kind));
        }
    }

    private static void drop() {
        refusesBeyond("drop", OBJECTS, (x, i) -> x.drop(i) ? 1 : 0);
        SAMPLE.answers("drop of the first", 1, x -> x.drop(0) ? 1 : 0);
        SAMPLE.answers("drop of the last, dropped before", 0, x -> x.drop(OBJECTS - 1) ? 1 : 0);
        SAMPLE.changesNothing("drop of one that is dropped", "0", x -> x.drop(1) ? 1 : 0);
        SAMPLE.changesNothing("drop of one that was dropped while new", "0", x -> x.drop(5) ? 1 : 0);
    }

    private static void object() {
        refusesBeyond("object 0", 5, (x, what) -> x.object(0, what));
        refusesBeyond("object", OBJECTS, (x, i) -> x.object(i, 0));
        SAMPLE.outOfBounds("neither object nor what", x -> x.object(OBJECTS, 5));
        SAMPLE.answers("object(0, 0)", 10, x -> x.object(0, 0));
        SAMPLE.answers("object(0, 4)", 0, x -> x.object(0, 4));
        SAMPLE.answers("object(last, 0)", 30, x -> x.object(OBJECTS - 1, 0));
        SAMPLE.answers("object(last, 4)", 1, x -> x.object(OBJECTS - 1, 4));
    }

    private static void segment() {
        refusesBeyond("segment 0", 3, (x, what) -> x.segment(0, what));
        refusesBeyond("segment", SEGMENTS, (x, s) -> x.segment(s, 0));
        SAMPLE.outOfBounds("neither segment nor what", x -> x.segment(SEGMENTS, 3));
        SAMPLE.answers("segment(0, 0)", 0, x -> x.segment(0, 0));
        SAMPLE.answers("segment(0, 1)", 1, x -> x.segment(0, 1));
        SAMPLE.answers("segment(1, 1)", 2, x -> x.segment(1, 1));
        SAMPLE.answers("segment(last, 0)", 3, x -> x.segment(SEGMENTS - 1, 0));
        SAMPLE.answers("segment(last, 2)", 1, x -> x.segment(SEGMENTS - 1, 2));
    }

    private static void letGo() {
        refusesBeyond("letGo", VIEWS, GroupCursors::letGo);
        SAMPLE.wrongState("letGo of a held view", x -> x.letGo(HELD_VIEW));
        SAMPLE.wrongState("letGo of an ended view", x -> x.letGo(ENDED_VIEW));
        SAMPLE.answers("letGo of an open view", 0, x -> x.letGo(OPEN_VIEW));
    }

    private static void stateSizeGroups() {
        refusesBeyond("state", VIEWS, GroupCursors::state);
        refusesBeyond("size", VIEWS, GroupCursors::size);
        refusesBeyond("groups", VIEWS, GroupCursors::groups);
    }

    private static void hit() {
        refusesBeyond("hit of view", VIEWS, (x, view) -> x.hit(view, 0, 0, 0));
        refusesBeyond("hit", 3, (x, k) -> x.hit(OPEN_VIEW, 0, 0, k));
        refusesBeyond("hit of a held view", 3, (x, k) -> x.hit(HELD_VIEW, 0, 0, k));
        refusesBeyond("hit of an ended view", 0, (x, k) -> x.hit(ENDED_VIEW, 0, 0, k));
        refusesKinds("hit", (x, kind) -> x.hit(OPEN_VIEW, kind, 0, 0));
        refusesBeyond("hit by kind 3 of view", VIEWS, (x, view) -> x.hit(view, 3, 0, 0));
        refusesBeyond("hit by kind 3", 3, (x, k) -> x.hit(OPEN_VIEW, 3, 0, k));
        refusesBeyond("hit by kind -1 of an ended view", 0, (x, k) -> x.hit(ENDED_VIEW, -1, 0, k));
        SAMPLE.wrongArgument("hit by kind 3 of a held view", x -> x.hit(HELD_VIEW, 3, 0, 0));
        SAMPLE.answers("the first hit by kind 0", 3, x -> x.hit(OPEN_VIEW, 0, 0, 0));
        SAMPLE.answers("the last hit by kind 0", 0, x -> x.hit(OPEN_VIEW, 0, 0, 2));
        SAMPLE.answers("the last hit of a held view", 0, x -> x.hit(HELD_VIEW, 0, 0, 2));
    }

    private static void place() {
        refusesBeyond("place in view", VIEWS, (x, view) -> x.place(view, 0, 0, 0));
        refusesBeyond("place of", OBJECTS, (x, i) -> x.place(OPEN_VIEW, 0, 0, i));
        refusesBeyond("place in an ended view of", OBJECTS, (x, i) -> x.place(ENDED_VIEW, 0, 0, i));
        refusesKinds("place", (x, kind) -> x.place(OPEN_VIEW, kind, 0, 0));
        refusesKinds("place of one that the view has not", (x, kind) -> x.place(OPEN_VIEW, kind, 0, 1));
        refusesKinds("place in an ended view", (x, kind) -> x.place(ENDED_VIEW, kind, 0, 0));
        refusesBeyond("place by kind 3 in view", VIEWS, (x, view) -> x.place(view, 3, 0, 0));
        refusesBeyond("place by kind 3 of", OBJECTS, (x, i) -> x.place(OPEN_VIEW, 3, 0, i));
        SAMPLE.answers("place of the first object", 2, x -> x.place(OPEN_VIEW, 0, 0, 0));
        SAMPLE.answers("place of the last object", -1, x -> x.place(OPEN_VIEW, 0, 0, OBJECTS - 1));
        SAMPLE.answers("place in an ended view", -1, x -> x.place(ENDED_VIEW, 0, 0, 0));
    }

    private interface OfGroup {
        long call(GroupCursors x, int view, int kind, int k);
    }

    /** What group(), counted() and best() refuse alike. */
    private static void refusesAsGroup(String what, OfGroup call) {
        refusesBeyond(what + " of view", VIEWS, (x, view) -> call.call(x, view, 0, 0));
        refusesBeyond(what, 2, (x, k) -> call.call(x, OPEN_VIEW, 0, k));
        refusesBeyond(what + " of a held view", 2, (x, k) -> call.call(x, HELD_VIEW, 0, k));
        refusesBeyond(what + " of an ended view", 0, (x, k) -> call.call(x, ENDED_VIEW, 0, k));
        refusesKinds(what, (x, kind) -> call.call(x, OPEN_VIEW, kind, 1));
        refusesBeyond(what + " by kind 3 of view", VIEWS, (x, view) -> call.call(x, view, 3, 0));
        refusesBeyond(what + " by kind 3", 2, (x, k) -> call.call(x, OPEN_VIEW, 3, k));
        refusesBeyond(what + " by kind 3 of an ended view", 0, (x, k) -> call.call(x, ENDED_VIEW, 3, k));
    }

    private static void group() {
        refusesAsGroup("group", (x, view, kind, k) -> x.group(view, kind, 0, k));
        SAMPLE.answers("the first group", 20, x -> x.group(OPEN_VIEW, 0, 0, 0));
        SAMPLE.answers("the last group", 10, x -> x.group(OPEN_VIEW, 0, 0, 1));
    }

    private static void counted() {
        refusesAsGroup("counted", (x, view, kind, k) -> x.counted(view, kind, 0, k));
        SAMPLE.answers("counted in the first group", 1, x -> x.counted(OPEN_VIEW, 0, 0, 0));
        SAMPLE.answers("counted in the last group", 2, x -> x.counted(OPEN_VIEW, 0, 0, 1));
    }

    // best: "exceptions as group(); then, last, IndexOutOfBoundsException: no such object"
    private static void best() {
        refusesAsGroup("best", (x, view, kind, k) -> x.best(view, kind, 0, k, 0));
        refusesBeyond("best of group 0", 1, (x, j) -> x.best(OPEN_VIEW, 0, 0, 0, j));
        refusesBeyond("best of group 1", 2, (x, j) -> x.best(OPEN_VIEW, 0, 0, 1, j));
        refusesKinds("best 2 of 2", (x, kind) -> x.best(OPEN_VIEW, kind, 0, 1, 2));
        refusesKinds("best -1", (x, kind) -> x.best(OPEN_VIEW, kind, 0, 1, -1));
        SAMPLE.outOfBounds("no group, no kind, no object", x -> x.best(OPEN_VIEW, 3, 0, 2, 9));
        SAMPLE.answers("the first of group 1", 2, x -> x.best(OPEN_VIEW, 0, 0, 1, 0));
        SAMPLE.answers("the last of group 1", 0, x -> x.best(OPEN_VIEW, 0, 0, 1, 1));
    }

    // "slices (1 .. 8), slice (0 .. slices less 1), or keep (1 .. 1000)"
    private static void cursorArguments() {
        refusesBeyond("cursor of view", VIEWS, (x, view) -> x.cursor(view, 0, 0, 1, 0, 1));
        refusesKinds("cursor", (x, kind) -> x.cursor(OPEN_VIEW, kind, 0, 1, 0, 1));
        for (int slices : new int[] {0, 9, -1, 10, Integer.MIN_VALUE, Integer.MAX_VALUE}) {
            SAMPLE.wrongArgument("cursor of " + slices + " slices", x -> x.cursor(OPEN_VIEW, 0, 0, slices, 0, 1));
        }
        for (int slices = 1; slices <= 8; slices++) {
            int of = slices;
            for (int slice : new int[] {-1, of, of + 1, Integer.MIN_VALUE, Integer.MAX_VALUE}) {
                SAMPLE.wrongArgument("cursor of slice " + slice + " of " + of, x -> x.cursor(OPEN_VIEW, 0, 0, of, slice, 1));
            }
            SAMPLE.answers("cursor of slice 0 of " + of, READERS, x -> x.cursor(OPEN_VIEW, 0, 0, of, 0, 1));
            SAMPLE.answers("cursor of the last slice of " + of, READERS, x -> x.cursor(OPEN_VIEW, 0, 0, of, of - 1, 1));
        }
        for (int keep : new int[] {0, 1001, -1, Integer.MIN_VALUE, Integer.MAX_VALUE}) {
            SAMPLE.wrongArgument("cursor with keep " + keep, x -> x.cursor(OPEN_VIEW, 0, 0, 1, 0, keep));
        }
        for (int keep : new int[] {1, 2, 999, 1000}) {
            SAMPLE.answers("cursor with keep " + keep, READERS, x -> x.cursor(OPEN_VIEW, 0, 0, 1, 0, keep));
        }
    }

    private static void cursorOrder() {
        SAMPLE.wrongState("cursor of a held view", x -> x.cursor(HELD_VIEW, 0, 0, 1, 0, 1));
        SAMPLE.wrongState("cursor of an ended view", x -> x.cursor(ENDED_VIEW, 0, 0, 1, 0, 1));
        for (int view : new int[] {HELD_VIEW, ENDED_VIEW}) {
            refusesKinds("cursor of view " + view, (x, kind) -> x.cursor(view, kind, 0, 1, 0, 1));
            SAMPLE.wrongArgument("0 slices of view " + view, x -> x.cursor(view, 0, 0, 0, 0, 1));
            SAMPLE.wrongArgument("9 slices of view " + view, x -> x.cursor(view, 0, 0, 9, 0, 1));
            SAMPLE.wrongArgument("slice 1 of 1 of view " + view, x -> x.cursor(view, 0, 0, 1, 1, 1));
            SAMPLE.wrongArgument("slice -1 of view " + view, x -> x.cursor(view, 0, 0, 1, -1, 1));
            SAMPLE.wrongArgument("keep 0 of view " + view, x -> x.cursor(view, 0, 0, 1, 0, 0));
            SAMPLE.wrongArgument("keep 1001 of view " + view, x -> x.cursor(view, 0, 0, 1, 0, 1001));
        }
        refusesBeyond("kind 3 of view", VIEWS, (x, view) -> x.cursor(view, 3, 0, 1, 0, 1));
        refusesBeyond("0 slices of view", VIEWS, (x, view) -> x.cursor(view, 0, 0, 0, 0, 1));
        refusesBeyond("slice 1 of 1 of view", VIEWS, (x, view) -> x.cursor(view, 0, 0, 1, 1, 1));
        refusesBeyond("keep 0 of view", VIEWS, (x, view) -> x.cursor(view, 0, 0, 1, 0, 0));
    }

    private static void iterator() {
        refusesBeyond("iterator of view", VIEWS, (x, view) -> x.iterator(view, 0, 0, -1));
        refusesBeyond("iterator by kind 3 of view", VIEWS, (x, view) -> x.iterator(view, 3, 0, -1));
        for (int k : new int[] {-2, 2, 3, Integer.MIN_VALUE, Integer.MAX_VALUE}) {
            SAMPLE.outOfBounds("iterator of group " + k, x -> x.iterator(OPEN_VIEW, 0, 0, k));
            SAMPLE.outOfBounds("iterator of group " + k + " by kind 3", x -> x.iterator(OPEN_VIEW, 3, 0, k));
            SAMPLE.outOfBounds("iterator of group " + k + " of a held view", x -> x.iterator(HELD_VIEW, 0, 0, k));
            SAMPLE.outOfBounds("iterator of group " + k + " of an ended view", x -> x.iterator(ENDED_VIEW, 3, 0, k));
        }
        SAMPLE.outOfBounds("iterator of group 0 of an ended view", x -> x.iterator(ENDED_VIEW, 0, 0, 0));
        for (int k = -1; k < 2; k++) {
            int of = k;
            refusesKinds("iterator of group " + k, (x, kind) -> x.iterator(OPEN_VIEW, kind, 0, of));
            refusesKinds("iterator of a held view's group " + k, (x, kind) -> x.iterator(HELD_VIEW, kind, 0, of));
            SAMPLE.wrongState("iterator of a held view's group " + k, x -> x.iterator(HELD_VIEW, 0, 0, of));
            SAMPLE.answers("iterator of group " + k, READERS, x -> x.iterator(OPEN_VIEW, 0, 0, of));
        }
        refusesKinds("iterator of an ended view", (x, kind) -> x.iterator(ENDED_VIEW, kind, 0, -1));
        SAMPLE.wrongState("iterator of an ended view", x -> x.iterator(ENDED_VIEW, 0, 0, -1));
    }

    // "the next n (1 .. 50)"
    private static void take() {
        refusesBeyond("take of reader", READERS, (x, reader) -> x.take(reader, 1));
        refusesBeyond("take of 0 of reader", READERS, (x, reader) -> x.take(reader, 0));
        for (int n : new int[] {0, 51, -1, 52, Integer.MIN_VALUE, Integer.MAX_VALUE}) {
            SAMPLE.wrongArgument("take of " + n, x -> x.take(CURSOR, n));
            SAMPLE.wrongArgument("take of " + n + " of an ended cursor", x -> x.take(ENDED_CURSOR, n));
            SAMPLE.wrongArgument("take of " + n + " of an iterator", x -> x.take(ITERATOR, n));
        }
        SAMPLE.wrongArgument("take of an iterator", x -> x.take(ITERATOR, 1));
        SAMPLE.wrongArgument("take of an ended iterator", x -> x.take(ENDED_ITERATOR, 50));
        SAMPLE.answers("take of 1", 1, x -> x.take(CURSOR, 1));
        SAMPLE.answers("take of 50", 1, x -> x.take(CURSOR, 50));
        // "-1: it has ended (the PAGE stays)"
        SAMPLE.changesNothing("take of 1 of an ended cursor", "-1", x -> x.take(ENDED_CURSOR, 1));
        SAMPLE.changesNothing("take of 50 of an ended cursor", "-1", x -> x.take(ENDED_CURSOR, 50));
    }

    private static void page() {
        refusesBeyond("page", 2, GroupCursors::page);
        SAMPLE.answers("page(0)", 2, x -> x.page(0));
        SAMPLE.answers("page(1)", 1, x -> x.page(1));
    }

    // "(These two come first.)"
    private static void next() {
        refusesBeyond("next of reader", READERS, GroupCursors::next);
        SAMPLE.wrongArgument("next of a cursor", x -> x.next(CURSOR));
        SAMPLE.wrongArgument("next of an ended cursor", x -> x.next(ENDED_CURSOR));
        SAMPLE.noElement("next of an ended iterator", x -> x.next(ENDED_ITERATOR));
        SAMPLE.answers("next of an iterator", 1, x -> x.next(ITERATOR));
    }

    private static void leftAndClose() {
        refusesBeyond("left of reader", READERS, GroupCursors::left);
        refusesBeyond("close of reader", READERS, GroupCursors::close);
        // "A READER ends, if it has not"
        SAMPLE.changesNothing("close of an ended cursor", "0", x -> x.close(ENDED_CURSOR));
        SAMPLE.changesNothing("close of an ended iterator", "0", x -> x.close(ENDED_ITERATOR));
        SAMPLE.answers("close of the first reader", 0, x -> x.close(0));
        SAMPLE.answers("close of the last reader", 0, x -> x.close(READERS - 1));
    }

    // "n is not 0 .. 10000"
    private static void tick() {
        for (int n : new int[] {-1, 10001, Integer.MIN_VALUE, Integer.MAX_VALUE, 1000000000}) {
            SAMPLE.wrongArgument("tick of " + n, x -> x.tick(n));
        }
        SAMPLE.changesNothing("tick of 0", "0", x -> x.tick(0));
        SAMPLE.answers("tick of 1", 0, x -> x.tick(1));
        SAMPLE.answers("tick of 9999", 2, x -> x.tick(9999));
        SAMPLE.answers("tick of 10000", 2, x -> x.tick(10000));
    }

    // "or NOW would be above 1000000000": no run of 512 calls comes there, but the class holds to it
    private static void tickAtTheLastNow() {
        GroupCursors x = SAMPLE.one();
        for (int i = 0; i < 99999; i++) {
            x.tick(10000);
        }
        x.tick(9998);
        DUE.is("NOW", 999999999, () -> x.told(10));
        int cursor = x.cursor(OPEN_VIEW, 0, 0, 1, 0, 1000);
        DUE.isWrongArgument("to one above the last", () -> x.tick(2));
        DUE.isWrongArgument("far above the last", () -> x.tick(10000));
        DUE.is("NOW stays", 999999999, () -> x.told(10));
        DUE.is("to the last", 0, () -> x.tick(1));
        DUE.is("NOW", 1000000000, () -> x.told(10));
        DUE.isWrongArgument("beyond the last", () -> x.tick(1));
        DUE.is("no time at the last", 0, () -> x.tick(0));
        DUE.is("a cursor whose end is above the last NOW", 3, () -> x.left(cursor));
        DUE.is("it gives", 3, () -> x.take(cursor, 50));
        DUE.is("it goes on", 0, () -> x.left(cursor));
    }

    private static void told() {
        refusesBeyond("told", 12, GroupCursors::told);
        SAMPLE.answers("told(0)", 6, x -> x.told(0));
        SAMPLE.answers("told(11)", 2, x -> x.told(11));
    }

    private static void aRefusedCallOnANewObject() {
        Twins fresh = new Twins(DUE, x -> { });
        Numbered[] ofNumber = {
            (x, i) -> x.drop(i) ? 1 : 0, (x, i) -> x.object(i, 0), (x, i) -> x.segment(i, 0), GroupCursors::letGo,
            GroupCursors::state, GroupCursors::size, (x, i) -> x.hit(i, 0, 0, 0), (x, i) -> x.place(i, 0, 0, 0),
            GroupCursors::groups, (x, i) -> x.group(i, 0, 0, 0), (x, i) -> x.counted(i, 0, 0, 0),
            (x, i) -> x.best(i, 0, 0, 0, 0), (x, i) -> x.cursor(i, 0, 0, 1, 0, 1), (x, i) -> x.iterator(i, 0, 0, -1),
            (x, i) -> x.take(i, 1), GroupCursors::page, GroupCursors::next, GroupCursors::left, GroupCursors::close,
        };
        for (int c = 0; c < ofNumber.length; c++) {
            Numbered call = ofNumber[c];
            fresh.outOfBounds("new: call " + c + " of 0", x -> call.call(x, 0));
            fresh.outOfBounds("new: call " + c + " of -1", x -> call.call(x, -1));
        }
        ToLongFunction<GroupCursors> commit = GroupCursors::commit;
        fresh.changesNothing("new: commit", "0", commit);
        fresh.changesNothing("new: merge", "0", x -> x.merge(Integer.MAX_VALUE));
        fresh.wrongArgument("new: tick", x -> x.tick(-1));
    }

    /** A call that only asks leaves all as it is, readers and the PAGE too. */
    private static void askingChangesNothing() {
        SAMPLE.changesNothing("object", "2", x -> x.object(0, 3));
        SAMPLE.changesNothing("segment", "1", x -> x.segment(0, 1));
        SAMPLE.changesNothing("state", "1", x -> x.state(HELD_VIEW));
        SAMPLE.changesNothing("size", "3", x -> x.size(HELD_VIEW));
        SAMPLE.changesNothing("hit", "0", x -> x.hit(HELD_VIEW, 1, 0, 0));
        SAMPLE.changesNothing("place", "0", x -> x.place(HELD_VIEW, 1, 0, 0));
        SAMPLE.changesNothing("groups", "2", x -> x.groups(HELD_VIEW));
        SAMPLE.changesNothing("group", "20", x -> x.group(HELD_VIEW, 1, 0, 1));
        SAMPLE.changesNothing("counted", "1", x -> x.counted(HELD_VIEW, 1, 0, 1));
        SAMPLE.changesNothing("best", "2", x -> x.best(HELD_VIEW, 1, 0, 0, 1));
        SAMPLE.changesNothing("page", "1", x -> x.page(1));
        SAMPLE.changesNothing("left", "1", x -> x.left(CURSOR));
        SAMPLE.changesNothing("told", "2", x -> x.told(11));
    }
}
