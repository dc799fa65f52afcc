/** Promises 12 and 13: hit, place, and the three orders. */
public final class HitsTest {
    private static final Due DUE = new Due();
    private static final long STEP = 0x9E3779B97F4A7C15L;

    public static void main(String[] args) {
        ordersBySort();
        ordersByMix();
        mixTurnsWithTheSeed();
        hitRefuses();
        placeTellsWhichHit();
        placeRefuses();
        DUE.end();
    }

    private static void ordersBySort() {
        GroupCursors x = new GroupCursors();
        x.add(1, 5, 0);
        x.add(1, 4, Long.MAX_VALUE);
        x.add(1, 3, Long.MIN_VALUE);
        x.add(1, -1, 0);
        x.add(1, 5, 0);
        x.add(1, Long.MIN_VALUE, -7);
        x.add(1, Long.MAX_VALUE, -7);
        x.commit();
        x.view();
        DUE.are("kind 0", "2 5 6 3 0 4 1", 7, k -> x.hit(0, 0, 99, k));
        DUE.are("kind 1", "1 3 0 4 5 6 2", 7, k -> x.hit(0, 1, 99, k));
        DUE.are("kind 0 by another seed", "2 5 6 3 0 4 1", 7, k -> x.hit(0, 0, -1, k));
        DUE.are("kind 1 by another seed", "1 3 0 4 5 6 2", 7, k -> x.hit(0, 1, 0, k));
        DUE.are("place by kind 0", "4 6 0 3 5 1 2", 7, i -> x.place(0, 0, 5, i));
        DUE.are("place by kind 1", "2 0 6 1 3 4 5", 7, i -> x.place(0, 1, 5, i));
    }

    // the mix of 1, 2 and 3 steps by the seed 0 is what splitmix64 is known to give from the state 0:
    // e220a8397b1dcdaf, 6e789e6aa1b965f4, 06c45d188009454f; that of 0 is 0
    private static void ordersByMix() {
        GroupCursors x = new GroupCursors();
        x.add(1, STEP, 1);
        x.add(1, 2 * STEP, 2);
        x.add(1, 3 * STEP, 3);
        x.add(1, 0, 4);
        x.add(1, 2 * STEP, 0);
        x.commit();
        x.view();
        DUE.are("kind 2, without sign", "3 2 1 4 0", 5, k -> x.hit(0, 2, 0, k));
        DUE.are("place by kind 2", "4 2 1 0 3", 5, i -> x.place(0, 2, 0, i));
    }

    private static void mixTurnsWithTheSeed() {
        GroupCursors x = new GroupCursors();
        for (int i = 0; i < 40; i++) {
            x.add(1, i - 20, i);
        }
        x.commit();
        x.view();
        for (long seed : new long[] {0, 1, -1, 77, Long.MAX_VALUE, Long.MIN_VALUE}) {
            String want = PlainModel.sorted(40, i -> i - 20, seed);
            DUE.are("kind 2 by the seed " + seed, want, 40, k -> x.hit(0, 2, seed, k));
        }
        DUE.is("other seeds, other orders", false,
            () -> PlainModel.sorted(40, i -> i, 1).equals(PlainModel.sorted(40, i -> i, 2)));
    }

    private static void hitRefuses() {
        GroupCursors x = new GroupCursors();
        DUE.isOutOfBounds("no view", () -> x.hit(0, 0, 0, 0));
        x.add(1, 1, 1);
        x.commit();
        x.view();
        DUE.isOutOfBounds("hit -1", () -> x.hit(0, 0, 0, -1));
        DUE.isOutOfBounds("hit 1", () -> x.hit(0, 0, 0, 1));
        DUE.isOutOfBounds("view -1", () -> x.hit(-1, 0, 0, 0));
        DUE.isOutOfBounds("view 1", () -> x.hit(1, 0, 0, 0));
        DUE.isWrongArgument("kind -1", () -> x.hit(0, -1, 0, 0));
        DUE.isWrongArgument("kind 3", () -> x.hit(0, 3, 0, 0));
        DUE.isOutOfBounds("hit 1 and kind 3", () -> x.hit(0, 3, 0, 1));
        DUE.isOutOfBounds("hit -1 and kind 3", () -> x.hit(0, 3, 0, -1));
        DUE.isOutOfBounds("view 1 and kind 3", () -> x.hit(1, 3, 0, 0));
        x.letGo(0);
        DUE.isOutOfBounds("hit 0 of an ended view and kind 3", () -> x.hit(0, 3, 0, 0));
    }

    private static void placeTellsWhichHit() {
        GroupCursors x = new GroupCursors();
        x.add(1, 1, 3);
        x.add(1, 2, 2);
        x.add(1, 3, 1);
        x.drop(1);
        x.commit();
        x.view();
        x.drop(2);
        x.add(1, 4, 0);
        DUE.are("place", "1 -1 0 -1", 4, i -> x.place(0, 0, 0, i));
        x.letGo(0);
        DUE.is("place in an ended view", -1, () -> x.place(0, 0, 0, 0));
    }

    private static void placeRefuses() {
        GroupCursors x = new GroupCursors();
        x.add(1, 1, 1);
        x.commit();
        DUE.isOutOfBounds("no view", () -> x.place(0, 0, 0, 0));
        x.view();
        DUE.isOutOfBounds("object -1", () -> x.place(0, 0, 0, -1));
        DUE.isOutOfBounds("object 1", () -> x.place(0, 0, 0, 1));
        DUE.isOutOfBounds("object 1 and kind 3", () -> x.place(0, 3, 0, 1));
        DUE.isOutOfBounds("object -1 and kind 3", () -> x.place(0, 3, 0, -1));
        DUE.isOutOfBounds("view 1 and kind 3", () -> x.place(1, 3, 0, 0));
        DUE.isWrongArgument("kind 3", () -> x.place(0, 3, 0, 0));
        DUE.isWrongArgument("kind -1", () -> x.place(0, -1, 0, 0));
        x.letGo(0);
        DUE.isWrongArgument("kind 3 of an ended view", () -> x.place(0, 3, 0, 0));
    }
}
