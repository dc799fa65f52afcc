/** Promises 4, 5 and 7: commit, merge, segment. */
public final class SegmentsTest {
    private static final Due DUE = new Due();

    public static void main(String[] args) {
        commitMakesASegment();
        commitOfNoneMakesNoSegment();
        commitIsFullAt40();
        mergeTakesTheSmallLiveSegments();
        mergeOfLessThanTwoChangesNothing();
        mergeCountsWhatIsNotDropped();
        mergeIsFullAt40();
        segmentTellsStates();
        segmentCountsViews();
        segmentRefusesWhatIsNotThere();
        DUE.end();
    }

    /** An object with a segment of each of these sizes. */
    private static GroupCursors withSegments(int... sizes) {
        GroupCursors x = new GroupCursors();
        int key = 0;
        for (int size : sizes) {
            for (int i = 0; i < size; i++) {
                x.add(key % 2, key, key);
                key++;
            }
            x.commit();
        }
        return x;
    }

    private static void commitMakesASegment() {
        GroupCursors x = new GroupCursors();
        x.add(1, 1, 1);
        x.add(1, 2, 2);
        x.add(1, 3, 3);
        x.drop(1);
        DUE.is("commit of two and a dropped one", 2, x::commit);
        DUE.is("segment(0, 0)", 2, () -> x.segment(0, 0));
        DUE.are("segments of objects", "0 -1 0", 3, i -> x.object(i, 3));
        DUE.is("told(1): none is new", 0, () -> x.told(1));
        DUE.is("commit again", 0, x::commit);
        x.add(1, 4, 4);
        DUE.is("commit of one more", 1, x::commit);
        DUE.are("segments of objects", "0 -1 0 1", 4, i -> x.object(i, 3));
    }

    private static void commitOfNoneMakesNoSegment() {
        GroupCursors x = new GroupCursors();
        DUE.is("commit of nothing", 0, x::commit);
        x.add(1, 1, 1);
        x.drop(0);
        DUE.is("commit of a dropped one", 0, x::commit);
        DUE.is("told(2)", 0, () -> x.told(2));
        DUE.isOutOfBounds("segment(0, 0)", () -> x.segment(0, 0));
        DUE.is("object(0, 3)", -1, () -> x.object(0, 3));
    }

    private static GroupCursors withAllSegments() {
        int[] sizes = new int[40];
        java.util.Arrays.fill(sizes, 1);
        return withSegments(sizes);
    }

    private static void commitIsFullAt40() {
        GroupCursors x = withAllSegments();
        DUE.is("told(2) at 40", 40, () -> x.told(2));
        DUE.isOutOfBounds("segment(40, 0)", () -> x.segment(40, 0));
        DUE.is("commit of nothing at 40", 0, x::commit);
        DUE.is("view at 40", 0, x::view);
        DUE.is("it has all", 40, () -> x.size(0));
        DUE.is("it sees the last", 1, () -> x.segment(39, 2));
        DUE.is("letGo at 40", 0, () -> x.letGo(0));
        x.add(1, 1, 1);
        DUE.is("commit at 40", -4, x::commit);
        DUE.is("the new one stays new", 1, () -> x.told(1));
        DUE.is("the new one has no segment", -1, () -> x.object(40, 3));
        x.drop(0);
        DUE.is("a freed segment makes no room", -4, x::commit);
        x.drop(40);
        DUE.is("commit of a dropped one at 40", 0, x::commit);
        DUE.is("told(2) still", 40, () -> x.told(2));
    }

    private static void mergeTakesTheSmallLiveSegments() {
        GroupCursors x = withSegments(2, 5, 1, 3);
        DUE.is("merge(3): of 2 and 1", 3, () -> x.merge(3));
        DUE.are("objects that are not dropped", "0 5 0 3 3", 5, s -> x.segment(s, 0));
        DUE.are("states", "2 0 2 0 0", 5, s -> x.segment(s, 1));
        DUE.are("segments of objects", "4 4 1 1 1 1 1 4 3 3 3", 11, i -> x.object(i, 3));
        DUE.is("merge(5): 5 is not less than 5", 6, () -> x.merge(5));
        DUE.are("objects that are not dropped", "0 5 0 0 0 6", 6, s -> x.segment(s, 0));
        DUE.is("merge(most)", 11, () -> x.merge(Integer.MAX_VALUE));
        DUE.is("told(3): one is live", 1, () -> x.told(3));
        DUE.is("told(2)", 7, () -> x.told(2));
    }

    private static void mergeOfLessThanTwoChangesNothing() {
        GroupCursors none = new GroupCursors();
        DUE.is("merge of nothing", 0, () -> none.merge(10));
        GroupCursors x = withSegments(1, 4);
        DUE.is("merge(4): 4 is not less", 0, () -> x.merge(4));
        DUE.is("merge(1)", 0, () -> x.merge(1));
        DUE.is("merge(0)", 0, () -> x.merge(0));
        DUE.is("merge(-1)", 0, () -> x.merge(-1));
        DUE.is("merge(least)", 0, () -> x.merge(Integer.MIN_VALUE));
        DUE.is("told(2)", 2, () -> x.told(2));
        x.add(1, 1, 1);
        DUE.is("new ones are not merged", 0, () -> x.merge(4));
        DUE.is("all are where they were", 0, () -> x.object(0, 3));
        DUE.is("merge(5)", 5, () -> x.merge(5));
        DUE.is("the new one is still new", 1, () -> x.told(1));
    }

    private static void mergeCountsWhatIsNotDropped() {
        GroupCursors x = withSegments(3, 1, 2);
        x.drop(0);
        x.drop(1);
        x.drop(3);
        DUE.is("merge(2): one has 1, one has none", 0, () -> x.merge(2));
        DUE.is("merge(3): of 1 and 2", 3, () -> x.merge(3));
        DUE.are("dropped ones stay where they were", "0 0 3 1 3 3", 6, i -> x.object(i, 3));
    }

    private static void mergeIsFullAt40() {
        GroupCursors x = withAllSegments();
        DUE.is("merge(1) at 40", 0, () -> x.merge(1));
        DUE.is("merge(2) at 40", -4, () -> x.merge(2));
        DUE.is("all are live", 40, () -> x.told(3));
        DUE.is("object(39, 3)", 39, () -> x.object(39, 3));
    }

    private static void segmentTellsStates() {
        GroupCursors x = withSegments(2, 1);
        DUE.are("live", "0 0", 2, s -> x.segment(s, 1));
        x.view();
        x.drop(0);
        DUE.is("one left: live", 0, () -> x.segment(0, 1));
        x.drop(1);
        DUE.is("none left, seen: kept", 1, () -> x.segment(0, 1));
        DUE.is("it has none", 0, () -> x.segment(0, 0));
        x.view();
        x.drop(2);
        DUE.are("both kept", "1 1", 2, s -> x.segment(s, 1));
        DUE.is("letGo(0) frees the first", 1, () -> x.letGo(0));
        DUE.are("freed, kept", "2 1", 2, s -> x.segment(s, 1));
        DUE.is("letGo(1) frees the second", 1, () -> x.letGo(1));
        DUE.are("freed, freed", "2 2", 2, s -> x.segment(s, 1));
        GroupCursors y = withSegments(1);
        y.view();
        y.letGo(0);
        y.drop(0);
        DUE.is("none left, seen no more: freed at once", 2, () -> y.segment(0, 1));
    }

    private static void segmentCountsViews() {
        GroupCursors x = new GroupCursors();
        x.view();
        x.add(1, 1, 1);
        x.commit();
        DUE.is("an earlier view does not see it", 0, () -> x.segment(0, 2));
        x.view();
        x.view();
        DUE.is("two views see it", 2, () -> x.segment(0, 2));
        x.add(1, 2, 2);
        x.commit();
        x.merge(9);
        x.view();
        DUE.are("after a merge", "2 0 1", 3, s -> x.segment(s, 2));
        x.iterator(1, 0, 0, -1);
        x.letGo(1);
        DUE.is("a held view sees it", 2, () -> x.segment(0, 2));
        x.close(0);
        DUE.is("an ended one does not", 1, () -> x.segment(0, 2));
        x.letGo(2);
        DUE.are("the last one", "0 0 1", 3, s -> x.segment(s, 2));
    }

    private static void segmentRefusesWhatIsNotThere() {
        GroupCursors x = withSegments(1, 1);
        DUE.isOutOfBounds("segment(-1, 0)", () -> x.segment(-1, 0));
        DUE.isOutOfBounds("segment(2, 0)", () -> x.segment(2, 0));
        DUE.isOutOfBounds("segment(0, -1)", () -> x.segment(0, -1));
        DUE.isOutOfBounds("segment(0, 3)", () -> x.segment(0, 3));
        DUE.isOutOfBounds("segment(least, 0)", () -> x.segment(Integer.MIN_VALUE, 0));
    }
}
