/** Promises 8 to 11: view, letGo, state, size. */
public final class ViewsTest {
    private static final Due DUE = new Due();

    public static void main(String[] args) {
        viewHasWhatIsThereThen();
        viewIsFullAt30();
        letGoEndsAtOnceWithoutReaders();
        letGoHoldsWhileAReaderGoesOn();
        letGoCountsWhatItFrees();
        letGoRefuses();
        stateAndSizeRefuse();
        letGoCountsNothingThatWasFreedBefore();
        letGoCountsNothingThatIsLive();
        letGoCountsNothingThatAnotherSees();
        letGoOfOneThatIsHeldFreesNothing();
        DUE.end();
    }

    private static void viewHasWhatIsThereThen() {
        GroupCursors x = new GroupCursors();
        DUE.is("view of nothing", 0, x::view);
        DUE.is("size(0)", 0, () -> x.size(0));
        x.add(1, 1, 1);
        x.add(1, 2, 2);
        x.add(1, 3, 3);
        x.commit();
        x.drop(0);
        x.add(1, 4, 4);
        DUE.is("view", 1, x::view);
        DUE.is("no dropped one, no new one", 2, () -> x.size(1));
        x.commit();
        x.drop(1);
        x.merge(5);
        DUE.is("view 0 stays", 0, () -> x.size(0));
        DUE.is("view 1 stays", 2, () -> x.size(1));
        DUE.are("hits of view 1 stay", "1 2", 2, k -> x.hit(1, 0, 0, k));
        DUE.is("view", 2, x::view);
        DUE.are("hits of view 2", "2 3 throws.IndexOutOfBoundsException", 3, k -> x.hit(2, 0, 0, k));
        DUE.is("a view of nothing is open", 0, () -> x.state(0));
    }

    private static void viewIsFullAt30() {
        GroupCursors x = new GroupCursors();
        for (int i = 0; i < 30; i++) {
            DUE.is("view " + i, i, x::view);
        }
        DUE.is("view beyond 30", -4, x::view);
        x.letGo(0);
        DUE.is("an ended view makes no room", -4, x::view);
        DUE.is("told(6)", 30, () -> x.told(6));
        DUE.isOutOfBounds("state(30)", () -> x.state(30));
    }

    private static void letGoEndsAtOnceWithoutReaders() {
        GroupCursors x = new GroupCursors();
        x.add(1, 1, 1);
        x.commit();
        x.view();
        DUE.is("open", 0, () -> x.state(0));
        DUE.is("letGo(0) of a live segment", 0, () -> x.letGo(0));
        DUE.is("ended", 2, () -> x.state(0));
        DUE.is("it has nothing", 0, () -> x.size(0));
        DUE.is("it has no groups", 0, () -> x.groups(0));
        DUE.isOutOfBounds("it has no hit", () -> x.hit(0, 0, 0, 0));
        DUE.is("it has no object", -1, () -> x.place(0, 0, 0, 0));
        DUE.is("nobody sees the segment", 0, () -> x.segment(0, 2));
        x.view();
        x.iterator(1, 0, 0, -1);
        x.next(0);
        x.cursor(1, 0, 0, 1, 0, 5);
        x.close(1);
        DUE.is("letGo(1) with ended readers alone", 0, () -> x.letGo(1));
        DUE.is("ended at once", 2, () -> x.state(1));
    }

    private static void letGoHoldsWhileAReaderGoesOn() {
        GroupCursors x = new GroupCursors();
        x.add(1, 1, 1);
        x.add(2, 2, 2);
        x.commit();
        x.view();
        x.iterator(0, 0, 0, -1);
        x.cursor(0, 0, 0, 1, 0, 3);
        x.letGo(0);
        DUE.is("held", 1, () -> x.state(0));
        DUE.is("it has its objects", 2, () -> x.size(0));
        DUE.is("it has its groups", 2, () -> x.groups(0));
        DUE.is("it has its hits", 1, () -> x.hit(0, 1, 0, 0));
        x.next(0);
        x.next(0);
        DUE.is("held by the cursor", 1, () -> x.state(0));
        x.take(1, 50);
        DUE.is("held by a cursor that has given all", 1, () -> x.state(0));
        x.tick(3);
        DUE.is("held till NOW is above the end", 1, () -> x.state(0));
        x.tick(1);
        DUE.is("ended by tick", 2, () -> x.state(0));
        x.view();
        x.cursor(1, 0, 0, 1, 0, 3);
        x.letGo(1);
        x.close(2);
        DUE.is("ended by close", 2, () -> x.state(1));
        x.view();
        x.iterator(2, 0, 0, 1);
        x.letGo(2);
        DUE.is("held by an iterator", 1, () -> x.state(2));
        x.next(3);
        DUE.is("ended by next", 2, () -> x.state(2));
    }

    private static void letGoCountsWhatItFrees() {
        GroupCursors x = new GroupCursors();
        for (int i = 0; i < 3; i++) {
            x.add(i, i, i);
            x.commit();
        }
        x.view();
        x.view();
        x.drop(0);
        x.merge(2);
        DUE.is("letGo(0): view 1 sees them", 0, () -> x.letGo(0));
        x.iterator(1, 0, 0, -1);
        DUE.is("letGo(1): held", 0, () -> x.letGo(1));
        DUE.is("kept", 3, () -> x.told(4));
        DUE.is("close frees all three", 3, () -> x.close(0));
        DUE.are("states", "2 2 2 0", 4, s -> x.segment(s, 1));
        x.view();
        DUE.is("letGo(2) frees none", 0, () -> x.letGo(2));
        DUE.is("told(5)", 3, () -> x.told(5));
    }

    private static void letGoRefuses() {
        GroupCursors x = new GroupCursors();
        DUE.isOutOfBounds("letGo(0) of none", () -> x.letGo(0));
        x.view();
        DUE.isOutOfBounds("letGo(-1)", () -> x.letGo(-1));
        DUE.isOutOfBounds("letGo(1)", () -> x.letGo(1));
        x.cursor(0, 0, 0, 1, 0, 5);
        x.letGo(0);
        DUE.isWrongState("letGo of a held one", () -> x.letGo(0));
        x.close(0);
        DUE.isWrongState("letGo of an ended one", () -> x.letGo(0));
    }

    private static void stateAndSizeRefuse() {
        GroupCursors x = new GroupCursors();
        x.view();
        DUE.isOutOfBounds("state(-1)", () -> x.state(-1));
        DUE.isOutOfBounds("state(1)", () -> x.state(1));
        DUE.isOutOfBounds("size(-1)", () -> x.size(-1));
        DUE.isOutOfBounds("size(1)", () -> x.size(1));
        DUE.isOutOfBounds("size(most)", () -> x.size(Integer.MAX_VALUE));
    }

    private static GroupCursors withThreeSegments() {
        GroupCursors x = new GroupCursors();
        for (int i = 0; i < 3; i++) {
            x.add(i, i, i);
            x.commit();
        }
        return x;
    }

    // "how many SEGMENTS are FREED by that": not those that are FREED already
    private static void letGoCountsNothingThatWasFreedBefore() {
        GroupCursors x = withThreeSegments();
        x.drop(0);
        x.view();
        x.drop(1);
        DUE.are("freed, kept, live", "2 1 0", 3, s -> x.segment(s, 1));
        DUE.is("letGo", 1, () -> x.letGo(0));
        DUE.are("freed, freed, live", "2 2 0", 3, s -> x.segment(s, 1));
    }

    private static void letGoCountsNothingThatIsLive() {
        GroupCursors x = withThreeSegments();
        x.view();
        DUE.is("letGo with three live", 0, () -> x.letGo(0));
        x.view();
        x.drop(0);
        x.drop(1);
        DUE.is("letGo with one live", 2, () -> x.letGo(1));
        x.view();
        x.drop(2);
        DUE.is("letGo with none live", 1, () -> x.letGo(2));
    }

    private static void letGoCountsNothingThatAnotherSees() {
        GroupCursors x = withThreeSegments();
        x.view();
        x.drop(0);
        x.view();
        x.drop(1);
        x.drop(2);
        DUE.are("seen by", "1 2 2", 3, s -> x.segment(s, 2));
        DUE.is("letGo(0): view 1 sees two of the three", 1, () -> x.letGo(0));
        DUE.are("freed, kept, kept", "2 1 1", 3, s -> x.segment(s, 1));
        DUE.is("letGo(1)", 2, () -> x.letGo(1));
    }

    private static void letGoOfOneThatIsHeldFreesNothing() {
        GroupCursors x = withThreeSegments();
        x.view();
        x.iterator(0, 0, 0, -1);
        x.merge(9);
        DUE.is("letGo", 0, () -> x.letGo(0));
        DUE.is("kept", 3, () -> x.told(4));
        x.next(0);
        x.next(0);
        DUE.is("kept till the last one is given", 3, () -> x.told(4));
        x.next(0);
        DUE.is("kept no more", 0, () -> x.told(4));
        DUE.is("freed", 3, () -> x.told(5));
    }
}
