/** Promises 4, 5 and 7: commit, merge, segment. */
public final class SegmentsTest {
    private static final Due DUE = new Due();

    public static void main(String[] args) {
        commitMakesASegment();
        commitOfNoneMakesNoSegment();
        commitIsFullAt40();
        mergeTakesTheSmallLiveSegments();
        mergeOfLessThanTwoChangesNothing();
        mergeCountsWhatIsNotDropped();
        mergeIsFullAt40();
        segmentTellsStates();
        segmentCountsViews();
        segmentRefusesWhatIsNotThere();
        commitTakesEachOnce();
        commitOfOneAndOfAll();
        mergeTakesThoseWithLessThanN();
        mergeNeedsTwoOrMore();
        mergeTakesLiveSegmentsAlone();
        mergeLeavesWhatIsNew();
        mergeLeavesWhatViewsSee();
        mergeOfZeroChangesNothing();
        mergeAtTheEndsOfN();
        DUE.end();
    }

    /** An object with a segment of each of these sizes. */
    private static GroupCursors withSegments(int... sizes) {
        GroupCursors x = new GroupCursors();
        int key = 0;
        for (int size : sizes) {
            for (int i = 0; i < size; i++) {
                x.add(key % 2, key, key);
                key++;
            }
            x.commit();
        }
        return x;
    }

    private static void commitMakesASegment() {
        GroupCursors x = new GroupCursors();
        x.add(1, 1, 1);
        x.add(1, 2, 2);
        x.add(1, 3, 3);
        x.drop(1);
        DUE.is("commit of two and a dropped one", 2, x::commit);
        DUE.is("segment(0, 0)", 2, () -> x.segment(0, 0));
        DUE.are("segments of objects", "0 -1 0", 3, i -> x.object(i, 3));
        DUE.is("told(1): none is new", 0, () -> x.told(1));
        DUE.is("commit again", 0, x::commit);
        x.add(1, 4, 4);
        DUE.is("commit of one more", 1, x::commit);
        DUE.are("segments of objects", "0 -1 0 1", 4, i -> x.object(i, 3));
    }

    private static void commitOfNoneMakesNoSegment() {
        GroupCursors x = new GroupCursors();
        DUE.is("commit of nothing", 0, x::commit);
        x.add(1, 1, 1);
        x.drop(0);
        DUE.is("commit of a dropped one", 0, x::commit);
        DUE.is("told(2)", 0, () -> x.told(2));
        DUE.isOutOfBounds("segment(0, 0)", () -> x.segment(0, 0));
        DUE.is("object(0, 3)", -1, () -> x.object(0, 3));
    }

    private static GroupCursors withAllSegments() {
        int[] sizes = new int[40];
        java.util.Arrays.fill(sizes, 1);
        return withSegments(sizes);
    }

    private static void commitIsFullAt40() {
        GroupCursors x = withAllSegments();
        DUE.is("told(2) at 40", 40, () -> x.told(2));
        DUE.isOutOfBounds("segment(40, 0)", () -> x.segment(40, 0));
        DUE.is("commit of nothing at 40", 0, x::commit);
        DUE.is("view at 40", 0, x::view);
        DUE.is("it has all", 40, () -> x.size(0));
        DUE.is("it sees the last", 1, () -> x.segment(39, 2));
        DUE.is("letGo at 40", 0, () -> x.letGo(0));
        x.add(1, 1, 1);
        DUE.is("commit at 40", -4, x::commit);
        DUE.is("the new one stays new", 1, () -> x.told(1));
        DUE.is("the new one has no segment", -1, () -> x.object(40, 3));
        x.drop(0);
        DUE.is("a freed segment makes no room", -4, x::commit);
        x.drop(40);
        DUE.is("commit of a dropped one at 40", 0, x::commit);
        DUE.is("told(2) still", 40, () -> x.told(2));
    }

    private static void mergeTakesTheSmallLiveSegments() {
        GroupCursors x = withSegments(2, 5, 1, 3);
        DUE.is("merge(3): of 2 and 1", 3, () -> x.merge(3));
        DUE.are("objects that are not dropped", "0 5 0 3 3", 5, s -> x.segment(s, 0));
        DUE.are("states", "2 0 2 0 0", 5, s -> x.segment(s, 1));
        DUE.are("segments of objects", "4 4 1 1 1 1 1 4 3 3 3", 11, i -> x.object(i, 3));
        DUE.is("merge(5): 5 is not less than 5", 6, () -> x.merge(5));
        DUE.are("objects that are not dropped", "0 5 0 0 0 6", 6, s -> x.segment(s, 0));
        DUE.is("merge(most)", 11, () -> x.merge(Integer.MAX_VALUE));
        DUE.is("told(3): one is live", 1, () -> x.told(3));
        DUE.is("told(2)", 7, () -> x.told(2));
    }

    private static void mergeOfLessThanTwoChangesNothing() {
        GroupCursors none = new GroupCursors();
        DUE.is("merge of nothing", 0, () -> none.merge(10));
        GroupCursors x = withSegments(1, 4);
        DUE.is("merge(4): 4 is not less", 0, () -> x.merge(4));
        DUE.is("merge(1)", 0, () -> x.merge(1));
        DUE.is("merge(0)", 0, () -> x.merge(0));
        DUE.is("merge(-1)", 0, () -> x.merge(-1));
        DUE.is("merge(least)", 0, () -> x.merge(Integer.MIN_VALUE));
        DUE.is("told(2)", 2, () -> x.told(2));
        x.add(1, 1, 1);
        DUE.is("new ones are not merged", 0, () -> x.merge(4));
        DUE.is("all are where they were", 0, () -> x.object(0, 3));
        DUE.is("merge(5)", 5, () -> x.merge(5));
        DUE.is("the new one is still new", 1, () -> x.told(1));
    }

    private static void mergeCountsWhatIsNotDropped() {
        GroupCursors x = withSegments(3, 1, 2);
        x.drop(0);
        x.drop(1);
        x.drop(3);
        DUE.is("merge(2): one has 1, one has none", 0, () -> x.merge(2));
        DUE.is("merge(3): of 1 and 2", 3, () -> x.merge(3));
        DUE.are("dropped ones stay where they were", "0 0 3 1 3 3", 6, i -> x.object(i, 3));
    }

    private static void mergeIsFullAt40() {
        GroupCursors x = withAllSegments();
        DUE.is("merge(1) at 40", 0, () -> x.merge(1));
        DUE.is("merge(2) at 40", -4, () -> x.merge(2));
        DUE.is("all are live", 40, () -> x.told(3));
        DUE.is("object(39, 3)", 39, () -> x.object(39, 3));
    }

    private static void segmentTellsStates() {
        GroupCursors x = withSegments(2, 1);
        DUE.are("live", "0 0", 2, s -> x.segment(s, 1));
        x.view();
        x.drop(0);
        DUE.is("one left: live", 0, () -> x.segment(0, 1));
        x.drop(1);
        DUE.is("none left, seen: kept", 1, () -> x.segment(0, 1));
        DUE.is("it has none", 0, () -> x.segment(0, 0));
        x.view();
        x.drop(2);
        DUE.are("both kept", "1 1", 2, s -> x.segment(s, 1));
        DUE.is("letGo(0) frees the first", 1, () -> x.letGo(0));
        DUE.are("freed, kept", "2 1", 2, s -> x.segment(s, 1));
        DUE.is("letGo(1) frees the second", 1, () -> x.letGo(1));
        DUE.are("freed, freed", "2 2", 2, s -> x.segment(s, 1));
        GroupCursors y = withSegments(1);
        y.view();
        y.letGo(0);
        y.drop(0);
        DUE.is("none left, seen no more: freed at once", 2, () -> y.segment(0, 1));
    }

    private static void segmentCountsViews() {
        GroupCursors x = new GroupCursors();
        x.view();
        x.add(1, 1, 1);
        x.commit();
        DUE.is("an earlier view does not see it", 0, () -> x.segment(0, 2));
        x.view();
        x.view();
        DUE.is("two views see it", 2, () -> x.segment(0, 2));
        x.add(1, 2, 2);
        x.commit();
        x.merge(9);
        x.view();
        DUE.are("after a merge", "2 0 1", 3, s -> x.segment(s, 2));
        x.iterator(1, 0, 0, -1);
        x.letGo(1);
        DUE.is("a held view sees it", 2, () -> x.segment(0, 2));
        x.close(0);
        DUE.is("an ended one does not", 1, () -> x.segment(0, 2));
        x.letGo(2);
        DUE.are("the last one", "0 0 1", 3, s -> x.segment(s, 2));
    }

    private static void segmentRefusesWhatIsNotThere() {
        GroupCursors x = withSegments(1, 1);
        DUE.isOutOfBounds("segment(-1, 0)", () -> x.segment(-1, 0));
        DUE.isOutOfBounds("segment(2, 0)", () -> x.segment(2, 0));
        DUE.isOutOfBounds("segment(0, -1)", () -> x.segment(0, -1));
        DUE.isOutOfBounds("segment(0, 3)", () -> x.segment(0, 3));
        DUE.isOutOfBounds("segment(least, 0)", () -> x.segment(Integer.MIN_VALUE, 0));
    }

    // "all are NEW no more": none comes with a second commit, dropped or not
    private static void commitTakesEachOnce() {
        GroupCursors x = new GroupCursors();
        x.add(1, 1, 1);
        x.add(1, 2, 2);
        x.drop(0);
        DUE.is("told(1) before", 1, () -> x.told(1));
        DUE.is("commit", 1, x::commit);
        DUE.is("told(1) after", 0, () -> x.told(1));
        DUE.is("commit again", 0, x::commit);
        DUE.is("told(2)", 1, () -> x.told(2));
        x.add(1, 3, 3);
        DUE.is("commit of the next", 1, x::commit);
        DUE.are("what segments have", "1 1", 2, s -> x.segment(s, 0));
    }

    private static void commitOfOneAndOfAll() {
        GroupCursors one = new GroupCursors();
        one.add(1, 1, 1);
        DUE.is("commit of one", 1, one::commit);
        DUE.is("told(2)", 1, () -> one.told(2));
        GroupCursors all = new GroupCursors();
        for (int i = 0; i < 300; i++) {
            all.add(i, i, i);
        }
        for (int i = 0; i < 300; i += 3) {
            all.drop(i);
        }
        DUE.is("commit of 300, a third dropped", 200, all::commit);
        DUE.is("segment(0, 0)", 200, () -> all.segment(0, 0));
    }

    // "with less than n such ones": n less 1 is taken, n and n more 1 are not
    private static void mergeTakesThoseWithLessThanN() {
        GroupCursors x = withSegments(4, 2, 3, 1, 2);
        DUE.is("merge(2): 1 alone is less", 0, () -> x.merge(2));
        DUE.is("merge(3): 2, 1 and 2 are less", 5, () -> x.merge(3));
        DUE.are("what segments have", "4 0 3 0 0 5", 6, s -> x.segment(s, 0));
        DUE.is("merge(4): 3 alone is less", 0, () -> x.merge(4));
        DUE.is("merge(5): 4 and 3 are less", 7, () -> x.merge(5));
        DUE.are("what segments have", "0 0 0 0 0 5 7", 7, s -> x.segment(s, 0));
        DUE.is("merge(7): 5 alone is less", 0, () -> x.merge(7));
        DUE.is("merge(8): 5 and 7 are less", 12, () -> x.merge(8));
    }

    // "if these SEGMENTS are two or more"
    private static void mergeNeedsTwoOrMore() {
        new Twins(DUE, x -> { }).changesNothing("merge of no segment", "0", x -> x.merge(9));
        new Twins(DUE, x -> {
            x.add(1, 1, 1);
            x.commit();
        }).changesNothing("merge of one segment", "0", x -> x.merge(9));
        GroupCursors two = withSegments(1, 1);
        DUE.is("merge of two segments", 2, () -> two.merge(2));
        DUE.is("merge of what came of it", 0, () -> two.merge(9));
        GroupCursors three = withSegments(1, 1, 1);
        DUE.is("merge of three segments", 3, () -> three.merge(2));
        DUE.are("all are in one", "3 3 3", 3, i -> three.object(i, 3));
    }

    // "of all LIVE SEGMENTS": a KEPT or a FREED one has less than n, too, but does not count
    private static void mergeTakesLiveSegmentsAlone() {
        GroupCursors x = withSegments(1, 1, 1);
        x.drop(0);
        x.view();
        x.drop(1);
        DUE.are("freed, kept, live", "2 1 0", 3, s -> x.segment(s, 1));
        DUE.is("merge of one live", 0, () -> x.merge(9));
        x.add(1, 1, 1);
        x.commit();
        DUE.is("merge of two live", 2, () -> x.merge(9));
        DUE.are("segments of objects", "0 1 4 4", 4, i -> x.object(i, 3));
    }

    private static void mergeLeavesWhatIsNew() {
        GroupCursors x = withSegments(1, 1);
        x.add(1, 1, 1);
        DUE.is("merge", 2, () -> x.merge(9));
        DUE.is("in no segment", -1, () -> x.object(2, 3));
        DUE.is("NEW yet", 1, () -> x.told(1));
        DUE.is("commit of it", 1, x::commit);
        DUE.is("it has a segment of its own", 3, () -> x.object(2, 3));
    }

    private static void mergeLeavesWhatViewsSee() {
        GroupCursors x = withSegments(1, 1);
        x.view();
        DUE.is("merge", 2, () -> x.merge(9));
        DUE.are("kept, kept, live", "1 1 0", 3, s -> x.segment(s, 1));
        DUE.are("seen by", "1 1 0", 3, s -> x.segment(s, 2));
        DUE.is("letGo frees both", 2, () -> x.letGo(0));
    }

    // "0: nothing changes"
    private static void mergeOfZeroChangesNothing() {
        Twins twins = new Twins(DUE, x -> {
            for (int i = 0; i < 5; i++) {
                x.add(i, i, i);
                if (i != 1 && i != 3) {
                    x.commit();
                }
            }
            x.view();
            x.drop(0);
            x.add(9, 9, 9);
        });
        for (int n : new int[] {Integer.MIN_VALUE, -1, 0, 1, 2}) {
            twins.changesNothing("merge(" + n + ")", "0", x -> x.merge(n));
        }
        twins.answers("merge(3)", 4, x -> x.merge(3));
    }

    private static void mergeAtTheEndsOfN() {
        GroupCursors x = withSegments(2, 3);
        DUE.is("merge(least)", 0, () -> x.merge(Integer.MIN_VALUE));
        DUE.is("merge(most)", 5, () -> x.merge(Integer.MAX_VALUE));
    }
}
