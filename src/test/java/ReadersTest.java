/** Promises 23 to 26: left, close, tick, told. */
public final class ReadersTest {
    private static final Due DUE = new Due();

    public static void main(String[] args) {
        leftCountsDown();
        leftRefuses();
        closeCountsWhatItFrees();
        closeRefuses();
        tickEndsCursorsAlone();
        tickEndsViewsAndFrees();
        tickRefuses();
        toldTells();
        toldRefuses();
        closeOfAnEndedOneFreesNothing();
        closeFreesWhatItsViewSawLast();
        tickCountsCursorsOnce();
        tickOfManyViewsAtOnce();
        toldOfEachAlone();
        DUE.end();
    }

    private static GroupCursors sample() {
        GroupCursors x = new GroupCursors();
        for (int i = 0; i < 4; i++) {
            x.add(i % 2, i, i);
        }
        x.commit();
        x.view();
        return x;
    }

    private static void leftCountsDown() {
        GroupCursors x = sample();
        int a = x.cursor(0, 0, 0, 1, 0, 1);
        int b = x.iterator(0, 0, 0, -1);
        int c = x.iterator(0, 0, 0, 1);
        DUE.are("left", "4 4 2", 3, x::left);
        x.take(a, 3);
        x.next(b);
        x.next(c);
        DUE.are("left", "1 3 1", 3, x::left);
        x.take(a, 3);
        x.next(c);
        DUE.are("a cursor goes on with none left, an iterator does not", "0 3 -1", 3, x::left);
        x.close(b);
        DUE.are("closed", "0 -1 -1", 3, x::left);
        x.tick(2);
        DUE.are("too late", "-1 -1 -1", 3, x::left);
    }

    private static void leftRefuses() {
        GroupCursors x = sample();
        DUE.isOutOfBounds("left(0) of none", () -> x.left(0));
        x.iterator(0, 0, 0, -1);
        DUE.isOutOfBounds("left(-1)", () -> x.left(-1));
        DUE.isOutOfBounds("left(1)", () -> x.left(1));
    }

    private static void closeCountsWhatItFrees() {
        GroupCursors x = sample();
        x.add(1, 9, 9);
        x.commit();
        x.view();
        x.iterator(0, 0, 0, -1);
        x.cursor(1, 0, 0, 1, 0, 5);
        x.cursor(1, 0, 0, 1, 0, 5);
        x.merge(9);
        x.letGo(1);
        DUE.is("close of one of two", 0, () -> x.close(1));
        DUE.is("close of it again", 0, () -> x.close(1));
        DUE.is("the view is held yet", 1, () -> x.state(1));
        DUE.is("close of the other: view 0 sees one of the two", 1, () -> x.close(2));
        DUE.are("states", "1 2 0", 3, s -> x.segment(s, 1));
        DUE.is("close with an open view", 0, () -> x.close(0));
        DUE.is("the view is open", 0, () -> x.state(0));
        DUE.is("letGo frees the rest", 1, () -> x.letGo(0));
    }

    private static void closeRefuses() {
        GroupCursors x = sample();
        DUE.isOutOfBounds("close(0) of none", () -> x.close(0));
        x.iterator(0, 0, 0, -1);
        DUE.isOutOfBounds("close(-1)", () -> x.close(-1));
        DUE.isOutOfBounds("close(1)", () -> x.close(1));
        DUE.is("it goes on", 4, () -> x.left(0));
    }

    private static void tickEndsCursorsAlone() {
        GroupCursors x = sample();
        x.cursor(0, 0, 0, 1, 0, 1);
        x.cursor(0, 0, 0, 1, 0, 2);
        x.cursor(0, 0, 0, 1, 0, 1000);
        x.iterator(0, 0, 0, -1);
        x.cursor(0, 0, 0, 1, 0, 1);
        x.close(4);
        DUE.is("tick(0)", 0, () -> x.tick(0));
        DUE.is("tick(1): at the end, not above", 0, () -> x.tick(1));
        DUE.is("tick(1)", 1, () -> x.tick(1));
        DUE.are("left", "-1 4 4 4 -1", 5, x::left);
        DUE.is("tick(1)", 1, () -> x.tick(1));
        DUE.is("tick(997)", 0, () -> x.tick(997));
        DUE.is("told(10)", 1000, () -> x.told(10));
        DUE.is("tick(1)", 1, () -> x.tick(1));
        DUE.is("an iterator goes on", 4, () -> x.left(3));
        DUE.is("tick(10000)", 0, () -> x.tick(10000));
        DUE.is("told(10)", 11001, () -> x.told(10));
        x.cursor(0, 0, 0, 1, 0, 1000);
        x.cursor(0, 0, 0, 1, 0, 1);
        DUE.is("two at once", 2, () -> x.tick(10000));
    }

    private static void tickEndsViewsAndFrees() {
        GroupCursors x = sample();
        x.cursor(0, 0, 0, 1, 0, 3);
        x.cursor(0, 0, 0, 2, 0, 3);
        for (int i = 0; i < 4; i++) {
            x.drop(i);
        }
        x.letGo(0);
        DUE.is("kept", 1, () -> x.segment(0, 1));
        DUE.is("tick(4)", 2, () -> x.tick(4));
        DUE.is("the view has ended", 2, () -> x.state(0));
        DUE.is("freed", 2, () -> x.segment(0, 1));
        DUE.is("seen by none", 0, () -> x.segment(0, 2));
    }

    private static void tickRefuses() {
        GroupCursors x = new GroupCursors();
        DUE.isWrongArgument("tick(-1)", () -> x.tick(-1));
        DUE.isWrongArgument("tick(10001)", () -> x.tick(10001));
        DUE.isWrongArgument("tick(least)", () -> x.tick(Integer.MIN_VALUE));
        DUE.isWrongArgument("tick(most)", () -> x.tick(Integer.MAX_VALUE));
        DUE.is("NOW stays", 0, () -> x.told(10));
        // beyond 512 calls nothing is promised, but the bound stands in the document
        for (int i = 0; i < 100000; i++) {
            x.tick(10000);
        }
        DUE.is("NOW at its last", 1000000000, () -> x.told(10));
        DUE.isWrongArgument("tick(1) beyond", () -> x.tick(1));
        DUE.is("tick(0) there", 0, () -> x.tick(0));
    }

    private static void toldTells() {
        GroupCursors x = sample();
        x.add(1, 1, 1);
        x.add(1, 1, 1);
        x.drop(4);
        DUE.are("told", "6 1 1 1 0 0 1 1 0 0 0 0", 12, x::told);
        x.commit();
        x.merge(9);
        DUE.are("told after merge", "6 0 3 1 1 1 1 1 0 0 0 0", 12, x::told);
        x.view();
        x.view();
        x.letGo(2);
        x.cursor(1, 0, 0, 1, 0, 5);
        x.iterator(0, 0, 0, -1);
        x.iterator(0, 0, 0, -1);
        x.close(2);
        x.take(0, 3);
        x.letGo(1);
        x.tick(5);
        DUE.are("told with readers", "6 0 3 1 1 1 3 2 3 2 5 3", 12, x::told);
        x.tick(1);
        x.letGo(0);
        x.close(1);
        DUE.are("told at the end", "6 0 3 1 0 2 3 0 3 0 6 3", 12, x::told);
    }

    private static void toldRefuses() {
        GroupCursors x = sample();
        DUE.isOutOfBounds("told(-1)", () -> x.told(-1));
        DUE.isOutOfBounds("told(12)", () -> x.told(12));
        DUE.isOutOfBounds("told(most)", () -> x.told(Integer.MAX_VALUE));
    }

    // "A READER ends, if it has not": what has ended frees nothing by a close
    private static void closeOfAnEndedOneFreesNothing() {
        GroupCursors x = sample();
        x.iterator(0, 0, 0, -1);
        x.letGo(0);
        for (int i = 0; i < 4; i++) {
            x.drop(i);
        }
        DUE.is("close frees one", 1, () -> x.close(0));
        DUE.is("close again frees none", 0, () -> x.close(0));
        DUE.is("freed once", 1, () -> x.told(5));
        GroupCursors late = sample();
        late.cursor(0, 0, 0, 1, 0, 1);
        late.letGo(0);
        for (int i = 0; i < 4; i++) {
            late.drop(i);
        }
        DUE.is("tick ends it, and frees", 1, () -> late.tick(2));
        DUE.is("told(5)", 1, () -> late.told(5));
        DUE.is("close after that frees none", 0, () -> late.close(0));
    }

    private static void closeFreesWhatItsViewSawLast() {
        GroupCursors x = sample();
        x.add(5, 5, 5);
        x.commit();
        x.view();
        x.iterator(1, 0, 0, -1);
        x.iterator(1, 0, 0, -1);
        x.merge(9);
        x.letGo(0);
        x.letGo(1);
        DUE.is("one of two readers", 0, () -> x.close(0));
        DUE.is("the other frees two", 2, () -> x.close(1));
        GroupCursors open = sample();
        open.iterator(0, 0, 0, -1);
        open.merge(9);
        for (int i = 0; i < 4; i++) {
            open.drop(i);
        }
        DUE.is("close of an open view's reader", 0, () -> open.close(0));
        DUE.is("kept", 1, () -> open.segment(0, 1));
        GroupCursors live = sample();
        live.iterator(0, 0, 0, -1);
        live.letGo(0);
        DUE.is("close with a live segment", 0, () -> live.close(0));
        DUE.is("live", 0, () -> live.segment(0, 1));
    }

    // "how many CURSORS end by that": not those that have ended, and no iterators
    private static void tickCountsCursorsOnce() {
        GroupCursors x = sample();
        for (int i = 0; i < 4; i++) {
            x.cursor(0, 0, 0, 1, 0, 1);
        }
        x.iterator(0, 0, 0, -1);
        x.close(1);
        x.tick(1);
        x.take(3, 1);
        DUE.is("two of four", 2, () -> x.tick(1));
        DUE.is("the one that has taken", 1, () -> x.tick(1));
        DUE.is("no more", 0, () -> x.tick(10000));
        DUE.are("left", "-1 -1 -1 -1 4", 5, x::left);
    }

    private static void tickOfManyViewsAtOnce() {
        GroupCursors x = sample();
        x.view();
        x.cursor(0, 0, 0, 1, 0, 1);
        x.cursor(1, 0, 0, 1, 0, 2);
        x.letGo(0);
        x.letGo(1);
        for (int i = 0; i < 4; i++) {
            x.drop(i);
        }
        x.tick(2);
        DUE.are("states", "2 1", 2, x::state);
        DUE.is("kept by the second", 1, () -> x.segment(0, 1));
        x.tick(1);
        DUE.are("states", "2 2", 2, x::state);
        DUE.is("freed", 2, () -> x.segment(0, 1));
    }

    /** One step at a time, and after each what told() says of all. */
    private static void toldOfEachAlone() {
        GroupCursors x = new GroupCursors();
        DUE.are("at first", "0 0 0 0 0 0 0 0 0 0 0 0", 12, x::told);
        x.add(1, 1, 1);
        DUE.are("add", "1 1 0 0 0 0 0 0 0 0 0 0", 12, x::told);
        x.add(1, 2, 2);
        x.drop(1);
        DUE.are("add and drop", "2 1 0 0 0 0 0 0 0 0 0 0", 12, x::told);
        x.commit();
        DUE.are("commit", "2 0 1 1 0 0 0 0 0 0 0 0", 12, x::told);
        x.view();
        DUE.are("view", "2 0 1 1 0 0 1 1 0 0 0 0", 12, x::told);
        x.cursor(0, 0, 0, 1, 0, 3);
        DUE.are("cursor", "2 0 1 1 0 0 1 1 1 1 0 0", 12, x::told);
        x.take(0, 9);
        DUE.are("take", "2 0 1 1 0 0 1 1 1 1 0 1", 12, x::told);
        x.drop(0);
        DUE.are("drop", "2 0 1 0 1 0 1 1 1 1 0 1", 12, x::told);
        x.letGo(0);
        DUE.are("letGo: held is not ended", "2 0 1 0 1 0 1 1 1 1 0 1", 12, x::told);
        x.tick(3);
        DUE.are("tick to the end", "2 0 1 0 1 0 1 1 1 1 3 1", 12, x::told);
        x.tick(1);
        DUE.are("tick beyond", "2 0 1 0 0 1 1 0 1 0 4 1", 12, x::told);
    }
}
