import java.math.BigInteger;
import java.util.ArrayList;
import java.util.List;

/** The ORDERS, the MIX, the slices and the order of GROUPS, at the edges of 64 bits. */
public final class OrdersTest {
    private static final Due DUE = new Due();
    private static final long LEAST = Long.MIN_VALUE;
    private static final long MOST = Long.MAX_VALUE;
    private static final long ROUND_32 = 1L << 32;
    private static final long[] SEEDS = {0, 1, -1, 2, 1L << 62, LEAST, LEAST + 1, MOST, MOST - 1, ROUND_32};

    public static void main(String[] args) {
        mixGivesTheKnownNumbers();
        keysAreFoundFromTheirMix();
        kind0GivesTheLesserSortFirst();
        kind1GivesTheGreaterSortFirst();
        likeSortsGiveTheLesserKeyFirst();
        likeKeysGiveTheLesserNumberFirst();
        kind2ComparesWithoutSign();
        kind2GoesRoundWithTheSeed();
        kind2ShiftsWithoutSign();
        kind2GivesTheLesserNumberOfLikeKeys();
        theSeedCountsForKind2Alone();
        groupsAreInTheOrderOfTheFirstHitOfEach();
        groupsAreLongs();
        slicesAreOfTheMixBySeed0();
        slicesAreWithoutSign();
        sliceOneOfOneHasAll();
        ordersOfAViewOfOne();
        DUE.end();
    }

    /** An object with a view of these keys; the sorts fall, the groups are all one. */
    private static GroupCursors withKeys(List<Long> keys) {
        GroupCursors x = new GroupCursors();
        for (int i = 0; i < keys.size(); i++) {
            x.add(1, keys.get(i), -i);
        }
        x.commit();
        x.view();
        return x;
    }

    private static GroupCursors withSorts(long... sorts) {
        GroupCursors x = new GroupCursors();
        for (int i = 0; i < sorts.length; i++) {
            x.add(1, -i, sorts[i]);
        }
        x.commit();
        x.view();
        return x;
    }

    /** The least and the greatest numbers without sign, and those where the sign bit turns. */
    private static List<BigInteger> edges() {
        BigInteger half = BigInteger.ONE.shiftLeft(63);
        return List.of(BigInteger.ZERO, BigInteger.ONE, BigInteger.ONE.shiftLeft(32).subtract(BigInteger.ONE),
            BigInteger.ONE.shiftLeft(32), half.subtract(BigInteger.TWO), half.subtract(BigInteger.ONE), half,
            half.add(BigInteger.ONE), Mix.ROUND.subtract(BigInteger.TWO), Mix.ROUND.subtract(BigInteger.ONE));
    }

    // the tests' own MIX is splitmix64: these numbers are known from elsewhere
    private static void mixGivesTheKnownNumbers() {
        long step = 0x9E3779B97F4A7C15L;
        DUE.compare("the mix of a step", "e220a8397b1dcdaf", Mix.of(step, 0).toString(16));
        DUE.compare("the mix of two steps", "6e789e6aa1b965f4", Mix.of(2 * step, 0).toString(16));
        DUE.compare("the mix of three steps", "6c45d188009454f", Mix.of(3 * step, 0).toString(16));
        DUE.compare("the mix of 0 by the seed 1", "e220a8397b1dcdaf", Mix.of(0, 1).toString(16));
        DUE.compare("the mix of 0", "0", Mix.of(0, 0).toString(16));
    }

    private static void keysAreFoundFromTheirMix() {
        for (BigInteger edge : edges()) {
            for (long seed : SEEDS) {
                DUE.compare("the mix of a found key", edge.toString(), Mix.of(Mix.keyOf(edge, seed), seed).toString());
            }
        }
    }

    // "0 the lesser SORT first"
    private static void kind0GivesTheLesserSortFirst() {
        GroupCursors x = withSorts(1, MOST, -1, LEAST, MOST - 1, 0, LEAST + 1, ROUND_32, -ROUND_32);
        DUE.are("kind 0", "3 6 8 2 5 0 7 4 1", 9, k -> x.hit(0, 0, 0, k));
        DUE.are("places by kind 0", "5 8 3 0 7 4 1 6 2", 9, i -> x.place(0, 0, 0, i));
    }

    // "1 the greater SORT first"
    private static void kind1GivesTheGreaterSortFirst() {
        GroupCursors x = withSorts(1, MOST, -1, LEAST, MOST - 1, 0, LEAST + 1, ROUND_32, -ROUND_32);
        DUE.are("kind 1", "1 4 7 0 5 2 8 6 3", 9, k -> x.hit(0, 1, 0, k));
        DUE.are("places by kind 1", "3 0 5 8 1 4 7 2 6", 9, i -> x.place(0, 1, 0, i));
    }

    // "then (and of like ones) the lesser KEY": in both kinds, and with sign
    private static void likeSortsGiveTheLesserKeyFirst() {
        GroupCursors x = new GroupCursors();
        for (long key : new long[] {0, MOST, -1, LEAST, 1, ROUND_32, -ROUND_32}) {
            x.add(1, key, 5);
        }
        x.add(1, MOST, 6);
        x.add(1, LEAST, 4);
        x.commit();
        x.view();
        DUE.are("kind 0 of like sorts", "8 3 6 2 0 4 5 1 7", 9, k -> x.hit(0, 0, 0, k));
        DUE.are("kind 1 of like sorts", "7 3 6 2 0 4 5 1 8", 9, k -> x.hit(0, 1, 0, k));
    }

    // "then the lesser number": across segments too
    private static void likeKeysGiveTheLesserNumberFirst() {
        GroupCursors x = new GroupCursors();
        for (int i = 0; i < 6; i++) {
            x.add(i, 9, 9);
            x.commit();
        }
        x.drop(1);
        x.merge(2);
        x.add(6, 9, 9);
        x.commit();
        x.view();
        for (int kind = 0; kind < 3; kind++) {
            int by = kind;
            DUE.are("kind " + kind + " of like ones", "0 2 3 4 5 6", 6, k -> x.hit(0, by, 3, k));
            DUE.are("groups by kind " + kind + " of like ones", "0 2 3 4 5 6", 6, k -> x.group(0, by, 3, k));
        }
    }

    // "2 the lesser MIX of the KEY by the seed first, without sign"
    private static void kind2ComparesWithoutSign() {
        for (long seed : SEEDS) {
            List<Long> keys = new ArrayList<>();
            for (BigInteger edge : edges()) {
                keys.add(0, Mix.keyOf(edge, seed));
            }
            GroupCursors x = withKeys(keys);
            DUE.are("the edges of the mix by the seed " + seed, "9 8 7 6 5 4 3 2 1 0", 10, k -> x.hit(0, 2, seed, k));
            DUE.are("their places", "9 8 7 6 5 4 3 2 1 0", 10, i -> x.place(0, 2, seed, i));
        }
    }

    // "64 bits, going round": the seed times its factor is beyond 64 bits for nearly every seed
    private static void kind2GoesRoundWithTheSeed() {
        long[] keys = {0, 1, -1, 2, LEAST, MOST, ROUND_32, -ROUND_32, LEAST + 1, 12345, -12345, 1L << 47};
        GroupCursors x = new GroupCursors();
        for (long key : keys) {
            x.add(1, key, 0);
        }
        x.commit();
        x.view();
        for (long seed : SEEDS) {
            DUE.are("kind 2 by the seed " + seed, PlainModel.sorted(keys.length, i -> keys[i], seed), keys.length,
                k -> x.hit(0, 2, seed, k));
        }
    }

    // ">>>": a key with its top bit set tells a shift with sign from one without
    private static void kind2ShiftsWithoutSign() {
        long[] keys = new long[64];
        GroupCursors x = new GroupCursors();
        for (int bit = 0; bit < 64; bit++) {
            keys[bit] = 1L << bit;
            x.add(1, keys[bit], 0);
        }
        x.commit();
        x.view();
        for (long seed : new long[] {0, 3, -3}) {
            DUE.are("one bit each by the seed " + seed, PlainModel.sorted(64, i -> keys[i], seed), 64,
                k -> x.hit(0, 2, seed, k));
        }
    }

    private static void kind2GivesTheLesserNumberOfLikeKeys() {
        long first = Mix.keyOf(BigInteger.ZERO, 8);
        long last = Mix.keyOf(Mix.ROUND.subtract(BigInteger.ONE), 8);
        GroupCursors x = withKeys(List.of(last, first, last, first, last));
        DUE.are("like keys by kind 2", "1 3 0 2 4", 5, k -> x.hit(0, 2, 8, k));
    }

    // "the seed counts for kind 2 alone"
    private static void theSeedCountsForKind2Alone() {
        GroupCursors x = withSorts(4, 2, 2, 9, -7);
        for (long seed : SEEDS) {
            DUE.are("kind 0 by the seed " + seed, "4 2 1 0 3", 5, k -> x.hit(0, 0, seed, k));
            DUE.are("kind 1 by the seed " + seed, "3 0 2 1 4", 5, k -> x.hit(0, 1, seed, k));
        }
        GroupCursors y = withKeys(List.of(0L, Mix.keyOf(BigInteger.ZERO, 5)));
        DUE.is("kind 2 by the seed 0", 0, () -> y.hit(0, 2, 0, 0));
        DUE.is("kind 2 by the seed 5", 1, () -> y.hit(0, 2, 5, 0));
    }

    // "in the order of the first HIT of each; objects of a GROUP are in the ORDER, too"
    private static void groupsAreInTheOrderOfTheFirstHitOfEach() {
        GroupCursors x = new GroupCursors();
        x.add(5, 0, 1);
        x.add(4, 0, 2);
        x.add(5, 0, 3);
        x.add(6, 0, 4);
        x.add(4, 0, 5);
        x.commit();
        x.view();
        DUE.are("groups by kind 0", "5 4 6", 3, k -> x.group(0, 0, 0, k));
        DUE.are("groups by kind 1", "4 6 5", 3, k -> x.group(0, 1, 0, k));
        DUE.are("counted by kind 1", "2 1 2", 3, k -> x.counted(0, 1, 0, k));
        DUE.are("the best of each by kind 0", "0 1 3", 3, k -> x.best(0, 0, 0, k, 0));
        DUE.are("the best of each by kind 1", "4 3 2", 3, k -> x.best(0, 1, 0, k, 0));
        DUE.are("group 2 by kind 1", "2 0 throws.IndexOutOfBoundsException", 3, j -> x.best(0, 1, 0, 2, j));
    }

    private static void groupsAreLongs() {
        GroupCursors x = new GroupCursors();
        long[] groups = {LEAST, MOST, -1, 0, 1, ROUND_32, 1 + ROUND_32, -4, -1 - ROUND_32, LEAST + 1};
        for (int i = 0; i < groups.length; i++) {
            x.add(groups[i], i, i);
        }
        x.commit();
        x.view();
        DUE.is("groups of ten that differ", 10, () -> x.groups(0));
        for (int i = 0; i < groups.length; i++) {
            int k = i;
            DUE.is("group " + i, groups[i], () -> x.group(0, 0, 0, k));
            DUE.is("counted " + i, 1, () -> x.counted(0, 0, 0, k));
        }
    }

    // "whose MIX by the seed 0 .. is its slice": the cursor's own seed and kind do not count
    private static void slicesAreOfTheMixBySeed0() {
        long key = Mix.keyOf(BigInteger.valueOf(5), 0);
        GroupCursors x = withKeys(List.of(key));
        for (int kind = 0; kind < 3; kind++) {
            for (long seed : new long[] {0, 1, -1, 77}) {
                int in = x.cursor(0, kind, seed, 8, 5, 1);
                int out = x.cursor(0, kind, seed, 8, 4, 1);
                DUE.is("slice 5 of 8 by kind " + kind + " and the seed " + seed, 1, () -> x.left(in));
                DUE.is("slice 4 of 8 by kind " + kind + " and the seed " + seed, 0, () -> x.left(out));
            }
        }
    }

    // "without sign, modulo its slices"
    private static void slicesAreWithoutSign() {
        for (BigInteger edge : edges()) {
            for (int slices = 1; slices <= 8; slices++) {
                GroupCursors x = withKeys(List.of(Mix.keyOf(edge, 0)));
                int of = slices;
                int due = edge.mod(BigInteger.valueOf(slices)).intValue();
                DUE.are("the slice of " + edge + " of " + slices, only(due, slices), slices,
                    slice -> x.left(x.cursor(0, 0, 0, of, slice, 1)));
            }
        }
    }

    /** A 1 at this place, else 0. */
    private static String only(int place, int n) {
        StringBuilder text = new StringBuilder();
        for (int i = 0; i < n; i++) {
            text.append(i == 0 ? "" : " ").append(i == place ? 1 : 0);
        }
        return text.toString();
    }

    private static void sliceOneOfOneHasAll() {
        List<Long> keys = new ArrayList<>();
        for (BigInteger edge : edges()) {
            keys.add(Mix.keyOf(edge, 0));
        }
        GroupCursors x = withKeys(keys);
        int reader = x.cursor(0, 2, 0, 1, 0, 1);
        DUE.is("take of one slice", 10, () -> x.take(reader, 50));
        DUE.are("its page", "0 1 2 3 4 5 6 7 8 9", 10, x::page);
    }

    private static void ordersOfAViewOfOne() {
        GroupCursors x = withSorts(LEAST);
        for (int kind = 0; kind < 3; kind++) {
            int by = kind;
            DUE.are("the only hit by kind " + kind, "0 throws.IndexOutOfBoundsException", 2, k -> x.hit(0, by, 1, k));
            DUE.is("its place", 0, () -> x.place(0, by, 1, 0));
            DUE.are("the only group", "1 throws.IndexOutOfBoundsException", 2, k -> x.group(0, by, 1, k));
        }
    }
}
