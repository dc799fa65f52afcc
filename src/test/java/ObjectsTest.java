/** Promises 1, 2, 3 and 6: a new object, add, drop, object. */
public final class ObjectsTest {
    private static final Due DUE = new Due();

    public static void main(String[] args) {
        aNewObjectHasNothing();
        addNumbersObjectsAsTheyCome();
        addIsFullAt300();
        dropAnswersWhetherItWasNot();
        dropRefusesWhatIsNotThere();
        objectTellsTheSegment();
        objectRefusesWhatIsNotThere();
        objectsOfTheClassDoNotTouchEachOther();
        DUE.end();
    }

    private static void aNewObjectHasNothing() {
        GroupCursors x = new GroupCursors();
        DUE.are("told() of a new object", "0 0 0 0 0 0 0 0 0 0 0 0", 12, x::told);
        DUE.isOutOfBounds("new: object(0, 0)", () -> x.object(0, 0));
        DUE.isOutOfBounds("new: segment(0, 0)", () -> x.segment(0, 0));
        DUE.isOutOfBounds("new: state(0)", () -> x.state(0));
        DUE.isOutOfBounds("new: left(0)", () -> x.left(0));
        DUE.isOutOfBounds("new: page(0)", () -> x.page(0));
        x.add(1, 2, 3);
        DUE.is("another new object: told(0)", 0, () -> new GroupCursors().told(0));
    }

    private static void addNumbersObjectsAsTheyCome() {
        GroupCursors x = new GroupCursors();
        DUE.is("add(7, 8, 9)", 0, () -> x.add(7, 8, 9));
        DUE.is("add of the ends", 1, () -> x.add(Long.MIN_VALUE, Long.MAX_VALUE, Long.MIN_VALUE));
        DUE.is("add of the same", 2, () -> x.add(7, 8, 9));
        DUE.are("object(0, what)", "7 8 9 -1 0", 5, what -> x.object(0, what));
        DUE.are("object(1, what)", "-9223372036854775808 9223372036854775807 -9223372036854775808 -1 0", 5,
            what -> x.object(1, what));
        DUE.are("object(2, what)", "7 8 9 -1 0", 5, what -> x.object(2, what));
        DUE.is("told(0)", 3, () -> x.told(0));
    }

    private static void addIsFullAt300() {
        GroupCursors x = new GroupCursors();
        for (int i = 0; i < 300; i++) {
            int k = i;
            DUE.is("add " + i, i, () -> x.add(k % 3, k, -k));
        }
        DUE.is("add beyond 300", -4, () -> x.add(1, 1, 1));
        DUE.is("told(0) at 300", 300, () -> x.told(0));
        DUE.are("object(299, what)", "2 299 -299 -1 0", 5, what -> x.object(299, what));
        DUE.isOutOfBounds("object(300, 0)", () -> x.object(300, 0));
        x.drop(3);
        DUE.is("a dropped one makes no room", -4, () -> x.add(1, 1, 1));
        DUE.is("commit of 299", 299, x::commit);
        DUE.is("add beyond 300 after commit", -4, () -> x.add(1, 1, 1));
        x.view();
        DUE.is("hit 0 by kind 1", 0, () -> x.hit(0, 1, 0, 0));
        DUE.is("hit 298 by kind 0", 0, () -> x.hit(0, 0, 0, 298));
        DUE.is("hit 0 by kind 0", 299, () -> x.hit(0, 0, 0, 0));
    }

    private static void dropAnswersWhetherItWasNot() {
        GroupCursors x = new GroupCursors();
        x.add(1, 1, 1);
        x.add(1, 2, 2);
        DUE.is("drop of a new one", true, () -> x.drop(0));
        DUE.is("drop of a new one again", false, () -> x.drop(0));
        DUE.is("told(1) after a drop", 1, () -> x.told(1));
        DUE.is("commit", 1, x::commit);
        DUE.is("dropped while new: no segment", -1, () -> x.object(0, 3));
        DUE.is("drop after commit of one dropped while new", false, () -> x.drop(0));
        DUE.is("it takes nothing from a segment", 1, () -> x.segment(0, 0));
        DUE.is("drop of one in a segment", true, () -> x.drop(1));
        DUE.is("drop of one in a segment again", false, () -> x.drop(1));
        DUE.is("its segment is freed", 2, () -> x.segment(0, 1));
        DUE.is("it was in segment 0", 0, () -> x.object(1, 3));
        DUE.is("it is dropped", 1, () -> x.object(1, 4));
    }

    private static void dropRefusesWhatIsNotThere() {
        GroupCursors x = new GroupCursors();
        DUE.isOutOfBounds("drop(0) of none", () -> x.drop(0) ? 1 : 0);
        x.add(1, 1, 1);
        DUE.isOutOfBounds("drop(-1)", () -> x.drop(-1) ? 1 : 0);
        DUE.isOutOfBounds("drop(1)", () -> x.drop(1) ? 1 : 0);
        DUE.isOutOfBounds("drop(least)", () -> x.drop(Integer.MIN_VALUE) ? 1 : 0);
        DUE.isOutOfBounds("drop(most)", () -> x.drop(Integer.MAX_VALUE) ? 1 : 0);
        DUE.is("nothing was dropped", 0, () -> x.object(0, 4));
    }

    private static void objectTellsTheSegment() {
        GroupCursors x = new GroupCursors();
        x.add(1, 1, 1);
        x.commit();
        x.add(1, 2, 2);
        x.add(1, 3, 3);
        x.commit();
        x.drop(1);
        x.add(1, 4, 4);
        DUE.are("segments of objects", "0 1 1 -1", 4, i -> x.object(i, 3));
        x.merge(10);
        DUE.are("segments of objects after merge", "2 1 2 -1", 4, i -> x.object(i, 3));
        x.drop(2);
        DUE.are("segments of objects after a drop", "2 1 2 -1", 4, i -> x.object(i, 3));
        DUE.are("dropped", "0 1 1 0", 4, i -> x.object(i, 4));
    }

    private static void objectRefusesWhatIsNotThere() {
        GroupCursors x = new GroupCursors();
        x.add(1, 1, 1);
        DUE.isOutOfBounds("object(0, -1)", () -> x.object(0, -1));
        DUE.isOutOfBounds("object(0, 5)", () -> x.object(0, 5));
        DUE.isOutOfBounds("object(-1, 0)", () -> x.object(-1, 0));
        DUE.isOutOfBounds("object(1, 0)", () -> x.object(1, 0));
        DUE.isOutOfBounds("object(most, most)", () -> x.object(Integer.MAX_VALUE, Integer.MAX_VALUE));
    }

    private static void objectsOfTheClassDoNotTouchEachOther() {
        GroupCursors x = new GroupCursors();
        GroupCursors y = new GroupCursors();
        for (int i = 0; i < 3; i++) {
            x.add(i, i, i);
            y.add(-i, -i, -i);
        }
        x.commit();
        x.view();
        x.take(x.cursor(0, 0, 0, 1, 0, 1), 2);
        x.tick(7);
        DUE.are("told of the other", "3 3 0 0 0 0 0 0 0 0 0 0", 12, y::told);
        y.commit();
        y.view();
        DUE.are("hits of one", "0 1 2", 3, k -> x.hit(0, 0, 0, k));
        DUE.are("hits of the other", "2 1 0", 3, k -> y.hit(0, 0, 0, k));
        DUE.isOutOfBounds("page of the other", () -> y.page(0));
    }
}
