import java.util.function.Consumer;

/**
 * The limits of the document's terms: one below each, at it and above it, and that a call which
 * answers FULL changes nothing.
 */
public final class LimitsTest {
    private static final Due DUE = new Due();

    public static void main(String[] args) {
        fullIsMinusFour();
        objectsAre300AtMost();
        droppedAndCommittedObjectsMakeNoRoom();
        segmentsAre40AtMostByCommit();
        segmentsAre40AtMostByMerge();
        freedSegmentsMakeNoRoom();
        commitOfNoneIsNotFull();
        mergeOfLessThanTwoIsNotFull();
        viewsAre30AtMost();
        endedViewsMakeNoRoom();
        readersAre60AtMost();
        cursorsAndIteratorsAreNumberedTogether();
        endedReadersMakeNoRoom();
        exceptionsComeBeforeFull();
        everythingIsFullAtOnce();
        DUE.end();
    }

    private static Twins after(Consumer<GroupCursors> past) {
        return new Twins(DUE, past);
    }

    private static void addObjects(GroupCursors x, int n) {
        for (int i = 0; i < n; i++) {
            x.add(i % 2, i, -i);
        }
    }

    /** Segments of one object each. */
    private static void addSegments(GroupCursors x, int n) {
        for (int i = 0; i < n; i++) {
            x.add(i % 2, i, -i);
            x.commit();
        }
    }

    private static void openViews(GroupCursors x, int n) {
        for (int i = 0; i < n; i++) {
            x.view();
        }
    }

    /** A view of three objects, in two groups, and n cursors of it. */
    private static void openCursors(GroupCursors x, int n) {
        addObjects(x, 3);
        x.commit();
        x.view();
        for (int i = 0; i < n; i++) {
            x.cursor(0, 0, 0, 1, 0, 3);
        }
    }

    private static void openIterators(GroupCursors x, int n) {
        addObjects(x, 3);
        x.commit();
        x.view();
        for (int i = 0; i < n; i++) {
            x.iterator(0, 0, 0, -1);
        }
    }

    // "FULL is -4."
    private static void fullIsMinusFour() {
        DUE.is("FULL", -4, () -> GroupCursors.FULL);
    }

    // "OBJECTS are numbered as they come, 300 at most"; add: "its number; FULL"
    private static void objectsAre300AtMost() {
        after(x -> addObjects(x, 298)).answers("add after 298", 298, x -> x.add(7, 7, 7));
        after(x -> addObjects(x, 299)).answers("add after 299", 299, x -> x.add(7, 7, 7));
        after(x -> addObjects(x, 300)).full("add after 300", x -> x.add(7, 7, 7));
        GroupCursors x = new GroupCursors();
        addObjects(x, 299);
        DUE.isOutOfBounds("object 299 of 299", () -> x.object(299, 0));
        x.add(7, 8, 9);
        DUE.are("object 299 of 300", "7 8 9 -1 0", 5, what -> x.object(299, what));
        x.add(1, 1, 1);
        DUE.are("object 299 after FULL", "7 8 9 -1 0", 5, what -> x.object(299, what));
        DUE.isOutOfBounds("object 300 after FULL", () -> x.object(300, 0));
        DUE.is("told(0) after FULL", 300, () -> x.told(0));
        DUE.is("commit of 300", 300, x::commit);
        DUE.is("segment(0, 0) of 300", 300, () -> x.segment(0, 0));
        x.view();
        DUE.is("size of 300", 300, () -> x.size(0));
        DUE.is("hit 299 of 300", 299, () -> x.hit(0, 0, 0, 299));
        DUE.isOutOfBounds("hit 300 of 300", () -> x.hit(0, 0, 0, 300));
    }

    private static void droppedAndCommittedObjectsMakeNoRoom() {
        after(x -> {
            addObjects(x, 300);
            x.drop(299);
        }).full("add after 300, one dropped while new", x -> x.add(7, 7, 7));
        after(x -> {
            addObjects(x, 300);
            x.commit();
            x.drop(0);
        }).full("add after 300, all committed, one dropped", x -> x.add(7, 7, 7));
    }

    // "a SEGMENT (numbered as they are made, 40 at most)"
    private static void segmentsAre40AtMostByCommit() {
        after(x -> {
            addSegments(x, 38);
            x.add(1, 1, 1);
        }).answers("commit after 38", 1, GroupCursors::commit);
        GroupCursors last = new GroupCursors();
        addSegments(last, 39);
        last.add(1, 1, 1);
        DUE.isOutOfBounds("segment 39 of 39", () -> last.segment(39, 0));
        DUE.is("commit after 39", 1, last::commit);
        DUE.is("it is segment 39", 39, () -> last.object(39, 3));
        DUE.is("segment(39, 0)", 1, () -> last.segment(39, 0));
        DUE.is("told(2)", 40, () -> last.told(2));
        after(x -> {
            addSegments(x, 40);
            x.add(1, 1, 1);
            x.add(1, 2, 2);
            x.drop(41);
        }).full("commit after 40", GroupCursors::commit);
        last.add(1, 2, 2);
        last.commit();
        DUE.is("the new one stays NEW", 1, () -> last.told(1));
        DUE.is("the new one has no segment", -1, () -> last.object(40, 3));
        DUE.isOutOfBounds("segment 40 after FULL", () -> last.segment(40, 0));
    }

    private static void segmentsAre40AtMostByMerge() {
        GroupCursors x = new GroupCursors();
        addSegments(x, 39);
        DUE.is("merge after 39", 39, () -> x.merge(2));
        DUE.is("the merged are in segment 39", 39, () -> x.object(0, 3));
        DUE.is("segment(39, 0)", 39, () -> x.segment(39, 0));
        DUE.is("told(2)", 40, () -> x.told(2));
        DUE.is("told(3)", 1, () -> x.told(3));
        after(y -> addSegments(y, 40)).full("merge after 40", y -> y.merge(2));
        after(y -> {
            addSegments(y, 40);
            y.view();
            y.drop(3);
        }).full("merge after 40, with a kept one", y -> y.merge(Integer.MAX_VALUE));
    }

    private static void freedSegmentsMakeNoRoom() {
        after(x -> {
            addSegments(x, 40);
            x.drop(0);
            x.drop(39);
            x.add(1, 1, 1);
        }).full("commit after 40, two of them freed", GroupCursors::commit);
        after(x -> {
            addSegments(x, 40);
            x.drop(0);
            x.drop(39);
        }).full("merge after 40, two of them freed", x -> x.merge(2));
    }

    // commit: "0: there are none, and no SEGMENT comes": then nothing is refused for want of room
    private static void commitOfNoneIsNotFull() {
        after(x -> addSegments(x, 40)).changesNothing("commit of none after 40", "0", GroupCursors::commit);
        after(x -> {
            addSegments(x, 40);
            x.add(1, 1, 1);
            x.drop(40);
        }).answers("commit of a dropped one after 40", 0, GroupCursors::commit);
    }

    // merge: "0: nothing changes"
    private static void mergeOfLessThanTwoIsNotFull() {
        after(x -> addSegments(x, 40)).changesNothing("merge(1) after 40", "0", x -> x.merge(1));
        after(x -> {
            addSegments(x, 40);
            for (int i = 1; i < 40; i++) {
                x.drop(i);
            }
        }).changesNothing("merge of one live segment after 40", "0", x -> x.merge(2));
    }

    // "A VIEW (numbered as they are opened, 30 at most)"
    private static void viewsAre30AtMost() {
        after(x -> openViews(x, 28)).answers("view after 28", 28, GroupCursors::view);
        after(x -> openViews(x, 29)).answers("view after 29", 29, GroupCursors::view);
        after(x -> {
            addObjects(x, 3);
            x.commit();
            openViews(x, 30);
        }).full("view after 30", GroupCursors::view);
        GroupCursors x = new GroupCursors();
        addObjects(x, 3);
        x.commit();
        openViews(x, 29);
        DUE.isOutOfBounds("state(29) of 29", () -> x.state(29));
        x.view();
        DUE.is("state(29) of 30", 0, () -> x.state(29));
        x.view();
        DUE.isOutOfBounds("state(30) after FULL", () -> x.state(30));
        DUE.is("the segment is seen by 30", 30, () -> x.segment(0, 2));
        DUE.is("told(6) after FULL", 30, () -> x.told(6));
    }

    private static void endedViewsMakeNoRoom() {
        after(x -> {
            openViews(x, 30);
            for (int i = 0; i < 30; i++) {
                x.letGo(i);
            }
        }).full("view after 30, all ended", GroupCursors::view);
    }

    // "READERS are numbered as they are opened, 60 at most"
    private static void readersAre60AtMost() {
        after(x -> openCursors(x, 58)).answers("cursor after 58", 58, x -> x.cursor(0, 0, 0, 1, 0, 1));
        after(x -> openCursors(x, 59)).answers("cursor after 59", 59, x -> x.cursor(0, 0, 0, 1, 0, 1));
        after(x -> openCursors(x, 59)).answers("iterator after 59", 59, x -> x.iterator(0, 0, 0, -1));
        after(x -> openCursors(x, 60)).full("cursor after 60", x -> x.cursor(0, 0, 0, 1, 0, 1));
        after(x -> openCursors(x, 60)).full("iterator after 60", x -> x.iterator(0, 0, 0, -1));
        after(x -> openCursors(x, 60)).full("iterator of a group after 60", x -> x.iterator(0, 0, 0, 1));
        after(x -> openIterators(x, 60)).full("cursor after 60 iterators", x -> x.cursor(0, 2, 9, 8, 7, 1000));
        after(x -> openIterators(x, 60)).full("iterator after 60 iterators", x -> x.iterator(0, 0, 0, -1));
        GroupCursors x = new GroupCursors();
        openCursors(x, 59);
        DUE.isOutOfBounds("left(59) of 59", () -> x.left(59));
        x.cursor(0, 0, 0, 1, 0, 1);
        DUE.is("left(59) of 60", 3, () -> x.left(59));
        x.cursor(0, 0, 0, 1, 0, 1);
        DUE.isOutOfBounds("left(60) after FULL", () -> x.left(60));
        DUE.is("told(8) after FULL", 60, () -> x.told(8));
        DUE.is("told(9) after FULL", 60, () -> x.told(9));
    }

    private static void cursorsAndIteratorsAreNumberedTogether() {
        GroupCursors x = new GroupCursors();
        openCursors(x, 1);
        DUE.is("an iterator after a cursor", 1, () -> x.iterator(0, 0, 0, -1));
        DUE.is("a cursor after an iterator", 2, () -> x.cursor(0, 0, 0, 1, 0, 1));
        x.view();
        DUE.is("a reader of another view", 3, () -> x.iterator(1, 0, 0, 0));
    }

    private static void endedReadersMakeNoRoom() {
        Consumer<GroupCursors> allClosed = x -> {
            openCursors(x, 60);
            for (int i = 0; i < 60; i++) {
                x.close(i);
            }
        };
        after(allClosed).full("cursor after 60, all closed", x -> x.cursor(0, 0, 0, 1, 0, 1));
        after(allClosed).full("iterator after 60, all closed", x -> x.iterator(0, 0, 0, -1));
        after(x -> {
            x.view();
            for (int i = 0; i < 60; i++) {
                x.iterator(0, 0, 0, -1);
            }
        }).full("iterator after 60 that ended at once", x -> x.iterator(0, 0, 0, -1));
    }

    private static void exceptionsComeBeforeFull() {
        Twins full = after(x -> openCursors(x, 60));
        full.outOfBounds("cursor after 60 of view 1", x -> x.cursor(1, 0, 0, 1, 0, 1));
        full.wrongArgument("cursor after 60 with keep 0", x -> x.cursor(0, 0, 0, 1, 0, 0));
        full.outOfBounds("iterator after 60 of group 2", x -> x.iterator(0, 0, 0, 2));
        full.wrongArgument("iterator after 60 by kind 3", x -> x.iterator(0, 3, 0, -1));
        Twins held = after(x -> {
            openCursors(x, 60);
            x.letGo(0);
        });
        held.wrongState("cursor after 60 of a held view", x -> x.cursor(0, 0, 0, 1, 0, 1));
        held.wrongState("iterator after 60 of a held view", x -> x.iterator(0, 0, 0, -1));
    }

    private static void everythingIsFullAtOnce() {
        GroupCursors x = new GroupCursors();
        addSegments(x, 40);
        addObjects(x, 260);
        openViews(x, 30);
        for (int i = 0; i < 60; i++) {
            x.iterator(i % 30, 0, 0, -1);
        }
        DUE.is("add", -4, () -> x.add(1, 1, 1));
        DUE.is("commit", -4, x::commit);
        DUE.is("merge", -4, () -> x.merge(2));
        DUE.is("view", -4, x::view);
        DUE.is("cursor", -4, () -> x.cursor(0, 0, 0, 1, 0, 1));
        DUE.is("iterator", -4, () -> x.iterator(0, 0, 0, -1));
        DUE.are("told", "300 260 40 40 0 0 30 30 60 60 0 0", 12, x::told);
        DUE.is("the last reader's next", 39, () -> x.next(59));
    }
}
