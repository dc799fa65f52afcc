/** Promises 19 and 22: iterator, next. */
public final class IteratorsTest {
    private static final Due DUE = new Due();

    public static void main(String[] args) {
        iteratesOverAll();
        iteratesOverAGroup();
        iteratesOverNothing();
        endsWithItsLastOne();
        iteratorRefuses();
        iteratorIsFullAt60();
        nextRefuses();
        iteratesOverThreeHundred();
        iteratorsGoOnApart();
        DUE.end();
    }

    private static GroupCursors sample() {
        GroupCursors x = new GroupCursors();
        x.add(8, 1, 30);
        x.add(9, 2, 10);
        x.add(8, 3, 20);
        x.add(9, 4, 40);
        x.add(8, 5, 50);
        x.commit();
        x.view();
        return x;
    }

    private static void iteratesOverAll() {
        GroupCursors x = sample();
        DUE.is("iterator of all", 0, () -> x.iterator(0, 0, 0, -1));
        x.drop(2);
        x.merge(9);
        x.tick(10000);
        DUE.are("next", "1 2 0 3 4 throws.NoSuchElementException", 6, i -> x.next(0));
        DUE.is("another one, by kind 1", 1, () -> x.iterator(0, 1, 0, -1));
        DUE.are("next", "4 3 0 2 1 throws.NoSuchElementException", 6, i -> x.next(1));
        DUE.is("another one, by kind 2", 2, () -> x.iterator(0, 2, 6, -1));
        for (int k = 0; k < 5; k++) {
            DUE.is("next by kind 2", x.hit(0, 2, 6, k), () -> x.next(2));
        }
    }

    private static void iteratesOverAGroup() {
        GroupCursors x = sample();
        x.iterator(0, 0, 0, 0);
        x.iterator(0, 0, 0, 1);
        x.iterator(0, 1, 0, 0);
        DUE.are("left", "2 3 3", 3, x::left);
        DUE.are("group 0 by kind 0", "1 3 throws.NoSuchElementException", 3, i -> x.next(0));
        DUE.are("group 1 by kind 0", "2 0 4 throws.NoSuchElementException", 4, i -> x.next(1));
        DUE.are("group 0 by kind 1", "4 0 2 throws.NoSuchElementException", 4, i -> x.next(2));
    }

    private static void iteratesOverNothing() {
        GroupCursors x = new GroupCursors();
        x.view();
        DUE.is("iterator of nothing", 0, () -> x.iterator(0, 0, 0, -1));
        DUE.is("it has ended", -1, () -> x.left(0));
        DUE.isNoElement("next of it", () -> x.next(0));
        DUE.is("told(8)", 1, () -> x.told(8));
        DUE.is("told(9)", 0, () -> x.told(9));
        x.letGo(0);
        DUE.is("it holds no view", 2, () -> x.state(0));
    }

    private static void endsWithItsLastOne() {
        GroupCursors x = sample();
        x.iterator(0, 0, 0, 0);
        for (int i = 0; i < 5; i++) {
            x.drop(i);
        }
        x.letGo(0);
        x.next(0);
        DUE.is("one left", 1, () -> x.left(0));
        DUE.is("held", 1, () -> x.state(0));
        DUE.is("kept", 1, () -> x.segment(0, 1));
        DUE.is("its last one", 3, () -> x.next(0));
        DUE.is("ended with it", -1, () -> x.left(0));
        DUE.is("its view ended", 2, () -> x.state(0));
        DUE.is("its segment is freed", 2, () -> x.segment(0, 1));
        DUE.is("close of it", 0, () -> x.close(0));
    }

    private static void iteratorRefuses() {
        GroupCursors x = sample();
        DUE.isOutOfBounds("view 1", () -> x.iterator(1, 0, 0, -1));
        DUE.isOutOfBounds("view -1 and kind 3", () -> x.iterator(-1, 3, 0, -1));
        DUE.isOutOfBounds("group 2", () -> x.iterator(0, 0, 0, 2));
        DUE.isOutOfBounds("group -2", () -> x.iterator(0, 0, 0, -2));
        DUE.isOutOfBounds("group 2 and kind 3", () -> x.iterator(0, 3, 0, 2));
        DUE.isWrongArgument("kind 3 of a group", () -> x.iterator(0, 3, 0, 1));
        DUE.isWrongArgument("kind -1 of all", () -> x.iterator(0, -1, 0, -1));
        DUE.is("none was opened", 0, () -> x.told(8));
        x.cursor(0, 0, 0, 1, 0, 1);
        x.letGo(0);
        DUE.isWrongState("a held view", () -> x.iterator(0, 0, 0, -1));
        DUE.isWrongState("a held view's group", () -> x.iterator(0, 0, 0, 1));
        DUE.isOutOfBounds("a held view's group 2", () -> x.iterator(0, 0, 0, 2));
        DUE.isWrongArgument("a held view and kind 3", () -> x.iterator(0, 3, 0, 1));
        x.close(0);
        DUE.isWrongState("an ended view", () -> x.iterator(0, 0, 0, -1));
        DUE.isOutOfBounds("an ended view's group", () -> x.iterator(0, 0, 0, 0));
        DUE.isWrongArgument("an ended view and kind 3", () -> x.iterator(0, 3, 0, -1));
    }

    private static void iteratorIsFullAt60() {
        GroupCursors x = new GroupCursors();
        x.view();
        for (int i = 0; i < 60; i++) {
            DUE.is("reader " + i, i, () -> x.iterator(0, 0, 0, -1));
        }
        DUE.is("iterator beyond 60", -4, () -> x.iterator(0, 0, 0, -1));
        DUE.is("cursor beyond 60", -4, () -> x.cursor(0, 0, 0, 1, 0, 1));
    }

    private static void nextRefuses() {
        GroupCursors x = sample();
        x.cursor(0, 0, 0, 1, 0, 1);
        x.iterator(0, 0, 0, -1);
        DUE.isOutOfBounds("reader -1", () -> x.next(-1));
        DUE.isOutOfBounds("reader 2", () -> x.next(2));
        DUE.isWrongArgument("a cursor", () -> x.next(0));
        x.close(0);
        DUE.isWrongArgument("an ended cursor", () -> x.next(0));
        x.next(1);
        x.close(1);
        DUE.isNoElement("a closed iterator", () -> x.next(1));
    }

    private static void iteratesOverThreeHundred() {
        GroupCursors x = new GroupCursors();
        for (int i = 0; i < 300; i++) {
            x.add(1, i, -i);
        }
        x.commit();
        x.view();
        x.iterator(0, 0, 0, -1);
        x.iterator(0, 1, 0, 0);
        DUE.are("left", "300 300", 2, x::left);
        DUE.are("the first of each", "299 0", 2, x::next);
        x.cursor(0, 0, 0, 1, 0, 1);
        for (int page = 0; page < 6; page++) {
            int first = 299 - 50 * page;
            DUE.is("take 50 of 300", 50, () -> x.take(2, 50));
            DUE.is("page(0)", first, () -> x.page(0));
            DUE.is("page(49)", first - 49, () -> x.page(49));
        }
        DUE.is("take beyond 300", 0, () -> x.take(2, 50));
    }

    private static void iteratorsGoOnApart() {
        GroupCursors x = sample();
        x.iterator(0, 0, 0, -1);
        x.iterator(0, 0, 0, -1);
        x.next(0);
        x.next(0);
        DUE.are("each has its own place", "0 1", 2, x::next);
        x.close(0);
        DUE.is("the other goes on", 4, () -> x.left(1));
        DUE.isNoElement("the closed one does not, with some left", () -> x.next(0));
    }
}
