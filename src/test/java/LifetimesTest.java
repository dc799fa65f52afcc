import java.util.function.Consumer;

/** When an object is NEW, a VIEW is HELD or ENDED, a READER ends, a SEGMENT is KEPT or FREED. */
public final class LifetimesTest {
    private static final Due DUE = new Due();
    private static final int OPEN = 0;
    private static final int HELD = 1;
    private static final int ENDED = 2;
    private static final int LIVE = 0;
    private static final int KEPT = 1;
    private static final int FREED = 2;

    public static void main(String[] args) {
        oneIsNewTillCommit();
        oneDroppedWhileNewNeverComesIntoASegment();
        aDroppedOneStaysInTheSegmentWhereItWas();
        aViewHasWhatIsInASegmentAndNotDropped();
        aViewHasItWhateverComesLater();
        aViewSeesTheSegmentsOfItsObjectsThen();
        aViewOfNothingSeesNothing();
        aViewIsOpenTillItIsLetGo();
        aViewIsHeldAsLongAsAnyReaderGoesOn();
        aReaderOfAnotherViewHoldsNothing();
        aViewWithoutReadersEndsAtOnce();
        anEndedViewHasAndSeesNothing();
        aSegmentIsLiveWhileOneIsNotDropped();
        aSegmentIsKeptWhileAnyViewSeesIt();
        aSegmentIsFreedForEver();
        aSegmentIsFreedByDropOrMergeIfNoneSeesIt();
        aCursorEndsWhenNowIsAboveItsEnd();
        anEndIsCountedFromTheOpening();
        eachTakeMovesTheEnd();
        aTakeThatIsRefusedDoesNotMoveTheEnd();
        aCursorWithoutHitsGoesOn();
        anIteratorEndsWithItsLastOne();
        anIteratorOfNothingEndsAtOnce();
        timeEndsNoIterator();
        DUE.end();
    }

    /** Objects 0 to n less 1, the sorts as the numbers, two groups, in one segment. */
    private static GroupCursors committed(int n) {
        GroupCursors x = new GroupCursors();
        for (int i = 0; i < n; i++) {
            x.add(i % 2, i, i);
        }
        x.commit();
        return x;
    }

    private static GroupCursors viewed(int n) {
        GroupCursors x = committed(n);
        x.view();
        return x;
    }

    private static void dropAll(GroupCursors x) {
        for (int i = 0; i < x.told(0); i++) {
            x.drop(i);
        }
    }

    // "One is NEW till commit(), then it is in a SEGMENT"
    private static void oneIsNewTillCommit() {
        GroupCursors x = new GroupCursors();
        x.add(1, 1, 1);
        x.merge(9);
        x.view();
        x.tick(1);
        DUE.is("NEW", 1, () -> x.told(1));
        DUE.is("in no segment yet", -1, () -> x.object(0, 3));
        x.commit();
        DUE.is("NEW no more", 0, () -> x.told(1));
        DUE.is("in a segment", 0, () -> x.object(0, 3));
    }

    // "one that is DROPPED while NEW never comes into a SEGMENT"
    private static void oneDroppedWhileNewNeverComesIntoASegment() {
        GroupCursors x = new GroupCursors();
        x.add(1, 1, 1);
        x.add(1, 2, 2);
        x.drop(0);
        DUE.is("commit of the other", 1, x::commit);
        x.add(1, 3, 3);
        DUE.is("the next commit", 1, x::commit);
        DUE.is("merge", 2, () -> x.merge(9));
        DUE.is("in no segment", -1, () -> x.object(0, 3));
        DUE.are("what segments have", "0 0 2", 3, s -> x.segment(s, 0));
        x.view();
        DUE.is("no view has it", -1, () -> x.place(0, 0, 0, 0));
        GroupCursors y = new GroupCursors();
        y.add(1, 1, 1);
        y.drop(0);
        DUE.is("commit of none", 0, y::commit);
        y.add(1, 2, 2);
        DUE.is("it does not come with the next", 1, y::commit);
        DUE.are("segments of both", "-1 0", 2, i -> y.object(i, 3));
    }

    // object: "the SEGMENT in which it is, or was when it was DROPPED"
    private static void aDroppedOneStaysInTheSegmentWhereItWas() {
        GroupCursors x = committed(2);
        x.drop(0);
        x.add(1, 9, 9);
        x.commit();
        x.merge(9);
        DUE.are("segments after merge", "0 2 2", 3, i -> x.object(i, 3));
        x.drop(1);
        x.add(1, 10, 10);
        x.commit();
        x.merge(9);
        DUE.are("segments after another merge", "0 2 4 4", 4, i -> x.object(i, 3));
    }

    // "has all objects that are in a SEGMENT and not DROPPED when it is opened"
    private static void aViewHasWhatIsInASegmentAndNotDropped() {
        GroupCursors x = committed(3);
        x.drop(1);
        x.add(1, 3, 3);
        x.commit();
        x.add(1, 4, 4);
        x.view();
        DUE.is("size", 3, () -> x.size(0));
        DUE.are("hits", "0 2 3 throws.IndexOutOfBoundsException", 4, k -> x.hit(0, 0, 0, k));
        DUE.are("places", "0 -1 1 2 -1", 5, i -> x.place(0, 0, 0, i));
    }

    // "and has them whatever comes later"
    private static void aViewHasItWhateverComesLater() {
        GroupCursors x = viewed(3);
        x.drop(0);
        DUE.are("after a drop", "0 1 2", 3, k -> x.hit(0, 0, 0, k));
        x.add(5, -1, -1);
        x.commit();
        DUE.are("after a commit", "0 1 2", 3, k -> x.hit(0, 0, 0, k));
        x.merge(9);
        DUE.are("after a merge", "0 1 2", 3, k -> x.hit(0, 0, 0, k));
        x.view();
        x.letGo(1);
        x.tick(10000);
        dropAll(x);
        x.merge(9);
        DUE.are("after all are dropped", "0 1 2 throws.IndexOutOfBoundsException", 4, k -> x.hit(0, 0, 0, k));
        DUE.is("size", 3, () -> x.size(0));
        DUE.is("groups", 2, () -> x.groups(0));
        DUE.is("counted", 2, () -> x.counted(0, 0, 0, 0));
        DUE.is("best", 2, () -> x.best(0, 0, 0, 0, 1));
        DUE.is("its iterator gives a dropped one", 0, () -> x.next(x.iterator(0, 0, 0, -1)));
    }

    // "it SEES the SEGMENTS in which these are then"
    private static void aViewSeesTheSegmentsOfItsObjectsThen() {
        GroupCursors x = viewed(2);
        x.add(1, 2, 2);
        x.commit();
        DUE.are("seen: not what came later", "1 0", 2, s -> x.segment(s, 2));
        x.view();
        DUE.are("seen by two", "2 1", 2, s -> x.segment(s, 2));
        x.merge(9);
        DUE.are("seen: not what the objects are merged into", "2 1 0", 3, s -> x.segment(s, 2));
        x.view();
        DUE.are("a later view sees that alone", "2 1 1", 3, s -> x.segment(s, 2));
    }

    private static void aViewOfNothingSeesNothing() {
        GroupCursors x = viewed(1);
        x.drop(0);
        DUE.is("kept", KEPT, () -> x.segment(0, 1));
        x.view();
        DUE.is("a kept segment is not seen by a later view", 1, () -> x.segment(0, 2));
        DUE.is("the later view has nothing", 0, () -> x.size(1));
        DUE.is("it is open", OPEN, () -> x.state(1));
        DUE.is("letting it go frees nothing", 0, () -> x.letGo(1));
        DUE.is("letting the first go frees one", 1, () -> x.letGo(0));
    }

    private static void aViewIsOpenTillItIsLetGo() {
        GroupCursors x = viewed(2);
        x.iterator(0, 0, 0, -1);
        x.cursor(0, 0, 0, 1, 0, 1);
        x.close(0);
        x.tick(2);
        DUE.is("open, though its readers have ended", OPEN, () -> x.state(0));
        DUE.is("it takes more readers", 2, () -> x.iterator(0, 0, 0, -1));
        dropAll(x);
        DUE.is("open, though all is dropped", OPEN, () -> x.state(0));
    }

    // "when it is let go, it is HELD as long as a READER of it goes on"
    private static void aViewIsHeldAsLongAsAnyReaderGoesOn() {
        GroupCursors x = viewed(2);
        x.cursor(0, 0, 0, 1, 0, 1);
        x.iterator(0, 0, 0, 0);
        x.iterator(0, 0, 0, -1);
        x.letGo(0);
        DUE.is("three go on", HELD, () -> x.state(0));
        DUE.is("tick ends one", 1, () -> x.tick(2));
        DUE.is("two go on", HELD, () -> x.state(0));
        DUE.is("next ends one", 0, () -> x.next(1));
        DUE.is("one goes on", HELD, () -> x.state(0));
        DUE.is("it has all yet", 2, () -> x.size(0));
        DUE.is("it is seen yet", 1, () -> x.segment(0, 2));
        x.close(0);
        x.close(1);
        DUE.is("closing ended ones counts for nothing", HELD, () -> x.state(0));
        DUE.is("close ends the last", 0, () -> x.close(2));
        DUE.is("none goes on", ENDED, () -> x.state(0));
    }

    private static void aReaderOfAnotherViewHoldsNothing() {
        GroupCursors x = viewed(2);
        x.view();
        x.iterator(1, 0, 0, -1);
        x.letGo(0);
        DUE.is("the one without readers", ENDED, () -> x.state(0));
        x.letGo(1);
        DUE.is("the one with a reader", HELD, () -> x.state(1));
    }

    // "then (or at once) it is ENDED"
    private static void aViewWithoutReadersEndsAtOnce() {
        GroupCursors never = viewed(1);
        never.letGo(0);
        DUE.is("never read", ENDED, () -> never.state(0));
        GroupCursors read = viewed(1);
        read.iterator(0, 0, 0, -1);
        read.next(0);
        read.cursor(0, 0, 0, 1, 0, 1);
        read.tick(2);
        read.cursor(0, 0, 0, 1, 0, 1);
        read.close(2);
        read.letGo(0);
        DUE.is("read no more", ENDED, () -> read.state(0));
    }

    // "ENDED, and has and sees nothing any more"
    private static void anEndedViewHasAndSeesNothing() {
        GroupCursors x = viewed(2);
        x.letGo(0);
        DUE.is("size", 0, () -> x.size(0));
        DUE.is("groups", 0, () -> x.groups(0));
        DUE.is("place", -1, () -> x.place(0, 0, 0, 0));
        DUE.isOutOfBounds("hit 0", () -> x.hit(0, 0, 0, 0));
        DUE.isOutOfBounds("group 0", () -> x.group(0, 0, 0, 0));
        DUE.isOutOfBounds("counted 0", () -> x.counted(0, 0, 0, 0));
        DUE.isOutOfBounds("best 0 0", () -> x.best(0, 0, 0, 0, 0));
        DUE.is("seen by none", 0, () -> x.segment(0, 2));
        DUE.is("not told among those that go on", 0, () -> x.told(7));
        DUE.is("but among all", 1, () -> x.told(6));
    }

    // "A SEGMENT is LIVE while an object that is not DROPPED is in it"
    private static void aSegmentIsLiveWhileOneIsNotDropped() {
        GroupCursors x = committed(3);
        x.drop(0);
        x.drop(2);
        DUE.is("one of three is left", LIVE, () -> x.segment(0, 1));
        DUE.is("how many", 1, () -> x.segment(0, 0));
        x.drop(0);
        DUE.is("a second drop of the same takes nothing", 1, () -> x.segment(0, 0));
        x.drop(1);
        DUE.is("none is left", FREED, () -> x.segment(0, 1));
        DUE.is("how many", 0, () -> x.segment(0, 0));
    }

    // "else it is KEPT while a VIEW that is not ENDED sees it": OPEN or HELD
    private static void aSegmentIsKeptWhileAnyViewSeesIt() {
        GroupCursors x = viewed(2);
        x.view();
        x.iterator(0, 0, 0, -1);
        dropAll(x);
        DUE.is("two open views", KEPT, () -> x.segment(0, 1));
        DUE.is("letGo: held", 0, () -> x.letGo(0));
        DUE.is("letGo: ended", 0, () -> x.letGo(1));
        DUE.is("a held view", KEPT, () -> x.segment(0, 1));
        DUE.is("seen by the held one", 1, () -> x.segment(0, 2));
        DUE.is("close of its reader", 1, () -> x.close(0));
        DUE.is("none", FREED, () -> x.segment(0, 1));
    }

    // "else FREED (for ever)"
    private static void aSegmentIsFreedForEver() {
        GroupCursors x = viewed(1);
        x.drop(0);
        x.letGo(0);
        DUE.is("freed", FREED, () -> x.segment(0, 1));
        x.add(0, 0, 0);
        x.commit();
        x.view();
        x.add(0, 0, 0);
        x.commit();
        x.merge(9);
        x.view();
        DUE.are("freed it stays", "2 1 2 0", 4, s -> x.segment(s, 1));
        DUE.are("seen by", "0 1 0 1", 4, s -> x.segment(s, 2));
        DUE.is("it is not freed again", 1, () -> x.letGo(1));
        DUE.are("freed it stays", "2 2 2 0", 4, s -> x.segment(s, 1));
    }

    private static void aSegmentIsFreedByDropOrMergeIfNoneSeesIt() {
        GroupCursors x = committed(2);
        x.add(1, 2, 2);
        x.commit();
        x.view();
        x.letGo(0);
        x.merge(9);
        DUE.are("by merge", "2 2 0", 3, s -> x.segment(s, 1));
        dropAll(x);
        DUE.are("by drop", "2 2 2", 3, s -> x.segment(s, 1));
        DUE.is("told(5)", 3, () -> x.told(5));
    }

    /** A cursor of three hits, opened when NOW is 10, with this keep. */
    private static GroupCursors withCursor(int keep) {
        GroupCursors x = viewed(3);
        x.tick(10);
        x.cursor(0, 0, 0, 1, 0, keep);
        return x;
    }

    // "as soon as NOW (0 at first) is above its END"
    private static void aCursorEndsWhenNowIsAboveItsEnd() {
        for (int keep : new int[] {1, 2, 999, 1000}) {
            GroupCursors x = withCursor(keep);
            DUE.is("one below the end of keep " + keep, 0, () -> x.tick(keep - 1));
            DUE.is("it goes on", 3, () -> x.left(0));
            DUE.is("at the end", 0, () -> x.tick(1));
            DUE.is("it goes on", 3, () -> x.left(0));
            DUE.is("no time", 0, () -> x.tick(0));
            DUE.is("above the end", 1, () -> x.tick(1));
            DUE.is("it has ended", -1, () -> x.left(0));
            DUE.is("take of it", -1, () -> x.take(0, 1));
            DUE.is("it does not end again", 0, () -> x.tick(1));
            GroupCursors far = withCursor(keep);
            DUE.is("far above the end", 1, () -> far.tick(10000));
        }
    }

    // "that is NOW and its KEEP, when it is opened"
    private static void anEndIsCountedFromTheOpening() {
        GroupCursors x = withCursor(3);
        x.tick(2);
        x.cursor(0, 0, 0, 1, 0, 3);
        DUE.is("at the first end", 0, () -> x.tick(1));
        DUE.is("above the first end", 1, () -> x.tick(1));
        DUE.is("at the second end", 0, () -> x.tick(1));
        DUE.is("above the second end", 1, () -> x.tick(1));
    }

    // "and at each take()": also at the end itself, and when there is nothing left to give
    private static void eachTakeMovesTheEnd() {
        GroupCursors x = withCursor(2);
        x.tick(2);
        DUE.is("take at the end", 2, () -> x.take(0, 2));
        DUE.is("at the new end", 0, () -> x.tick(2));
        DUE.is("take of the last", 1, () -> x.take(0, 2));
        DUE.is("at the new end", 0, () -> x.tick(2));
        DUE.is("take of none", 0, () -> x.take(0, 2));
        DUE.is("at the new end", 0, () -> x.tick(2));
        DUE.is("left", 0, () -> x.left(0));
        DUE.is("above it", 1, () -> x.tick(1));
        GroupCursors y = withCursor(2);
        y.cursor(0, 0, 0, 1, 0, 2);
        y.tick(2);
        y.take(0, 1);
        y.left(1);
        DUE.is("a take moves no other cursor's end", 1, () -> y.tick(1));
        DUE.are("the other has ended", "2 -1", 2, y::left);
    }

    private static void aTakeThatIsRefusedDoesNotMoveTheEnd() {
        for (int n : new int[] {0, 51, -1, Integer.MAX_VALUE, Integer.MIN_VALUE}) {
            GroupCursors x = withCursor(2);
            x.tick(2);
            DUE.isWrongArgument("take of " + n, () -> x.take(0, n));
            DUE.is("above the old end", 1, () -> x.tick(1));
        }
        GroupCursors y = withCursor(2);
        y.tick(3);
        y.take(0, 1);
        DUE.is("a take does not bring one back", -1, () -> y.left(0));
    }

    private static void aCursorWithoutHitsGoesOn() {
        Consumer<GroupCursors> goesOn = x -> {
            DUE.is("left", 0, () -> x.left(0));
            DUE.is("take", 0, () -> x.take(0, 1));
            x.letGo(0);
            DUE.is("held", HELD, () -> x.state(0));
            DUE.is("till time ends it", 1, () -> x.tick(2));
            DUE.is("ended", ENDED, () -> x.state(0));
        };
        GroupCursors empty = new GroupCursors();
        empty.view();
        empty.cursor(0, 0, 0, 1, 0, 1);
        goesOn.accept(empty);
        GroupCursors slice = new GroupCursors();
        slice.add(1, Mix.keyOf(java.math.BigInteger.ONE, 0), 1);
        slice.commit();
        slice.view();
        slice.cursor(0, 0, 0, 2, 0, 1);
        goesOn.accept(slice);
    }

    // "or has given its last one"
    private static void anIteratorEndsWithItsLastOne() {
        GroupCursors x = viewed(3);
        x.iterator(0, 0, 0, -1);
        x.iterator(0, 0, 0, 1);
        DUE.are("left", "3 1", 2, x::left);
        DUE.is("the only one of group 1", 1, () -> x.next(1));
        DUE.is("ended", -1, () -> x.left(1));
        x.next(0);
        x.next(0);
        DUE.is("one below the last", 1, () -> x.left(0));
        DUE.is("going on", 1, () -> x.told(9));
        DUE.is("the last", 2, () -> x.next(0));
        DUE.is("ended", -1, () -> x.left(0));
        DUE.is("going on", 0, () -> x.told(9));
        DUE.isNoElement("above the last", () -> x.next(0));
    }

    // "(at once, if it has none)"
    private static void anIteratorOfNothingEndsAtOnce() {
        GroupCursors x = new GroupCursors();
        x.view();
        DUE.is("it is opened", 0, () -> x.iterator(0, 2, 1, -1));
        DUE.is("it has ended", -1, () -> x.left(0));
        DUE.is("told(8)", 1, () -> x.told(8));
        DUE.is("told(9)", 0, () -> x.told(9));
        DUE.isNoElement("next", () -> x.next(0));
        DUE.is("the view stays open", OPEN, () -> x.state(0));
        DUE.is("close", 0, () -> x.close(0));
        x.letGo(0);
        DUE.is("it holds no view", ENDED, () -> x.state(0));
    }

    private static void timeEndsNoIterator() {
        GroupCursors x = viewed(2);
        x.iterator(0, 0, 0, -1);
        x.letGo(0);
        DUE.is("tick", 0, () -> x.tick(10000));
        DUE.is("left", 2, () -> x.left(0));
        DUE.is("held", HELD, () -> x.state(0));
        DUE.is("next", 0, () -> x.next(0));
    }
}
