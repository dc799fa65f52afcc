import java.math.BigInteger;

/** Promises 18, 20 and 21: cursor, take, page. */
public final class CursorsTest {
    private static final Due DUE = new Due();
    private static final long STEP = 0x9E3779B97F4A7C15L;

    public static void main(String[] args) {
        slicesShareTheHits();
        slicesAreWithoutSign();
        takeGivesEachHitOnce();
        takeGivesInTheOrder();
        takeSetsThePageAndTheEnd();
        cursorRefuses();
        cursorIsFullAt60();
        takeRefuses();
        pageRefuses();
        takeAtTheEdgesOfAPage();
        takeGivesTheNextAndNoMore();
        aShorterPageHidesTheOneBefore();
        thePageIsOneForAllCursors();
        thePageOutlivesItsCursorAndView();
        takeAtTheEdgesOfWhatIsLeft();
        takeGivesEachHitOnceWhateverComesMeanwhile();
        DUE.end();
    }

    /** The sorts of the first seven are 0 7 3 10 6 2 9. */
    private static GroupCursors withObjects(int n) {
        GroupCursors x = new GroupCursors();
        for (int i = 0; i < n; i++) {
            x.add(i % 3, i * 31L - 100, (i * 7) % 11);
        }
        x.commit();
        x.view();
        return x;
    }

    private static void slicesShareTheHits() {
        for (int slices = 1; slices <= 8; slices++) {
            GroupCursors x = withObjects(50);
            int[] times = new int[50];
            for (int slice = 0; slice < slices; slice++) {
                int reader = x.cursor(0, 0, 0, slices, slice, 5);
                int n = x.take(reader, 50);
                for (int i = 0; i < n; i++) {
                    times[x.page(i)]++;
                }
            }
            DUE.are("how often each hit came in " + slices + " slices", "1 ".repeat(49) + "1", 50, i -> times[i]);
        }
    }

    // what the mix of STEP by the seed 0 is: HitsTest
    private static void slicesAreWithoutSign() {
        GroupCursors x = new GroupCursors();
        x.add(1, STEP, 1);
        x.commit();
        x.view();
        BigInteger mix = new BigInteger("e220a8397b1dcdaf", 16);
        for (int slices = 1; slices <= 8; slices++) {
            int due = mix.mod(BigInteger.valueOf(slices)).intValue();
            for (int slice = 0; slice < slices; slice++) {
                int reader = x.cursor(0, 2, 12345, slices, slice, 5);
                DUE.is("left in slice " + slice + " of " + slices, slice == due ? 1 : 0, () -> x.left(reader));
            }
        }
    }

    private static void takeGivesEachHitOnce() {
        GroupCursors x = withObjects(7);
        int reader = x.cursor(0, 0, 0, 1, 0, 5);
        for (int i = 0; i < 7; i++) {
            x.drop(i);
        }
        x.add(1, 1, 1);
        x.commit();
        x.merge(9);
        x.letGo(0);
        DUE.is("take 3", 3, () -> x.take(reader, 3));
        DUE.are("its page", "0 5 2", 3, x::page);
        DUE.is("take 3 more", 3, () -> x.take(reader, 3));
        DUE.are("its page", "4 1 6", 3, x::page);
        DUE.is("left", 1, () -> x.left(reader));
        DUE.is("take 50: what is left", 1, () -> x.take(reader, 50));
        DUE.are("its page", "3 throws.IndexOutOfBoundsException", 2, x::page);
        DUE.is("take with none left", 0, () -> x.take(reader, 1));
        DUE.is("left 0, and not ended", 0, () -> x.left(reader));
        DUE.isOutOfBounds("the page is empty", () -> x.page(0));
    }

    private static void takeGivesInTheOrder() {
        GroupCursors x = withObjects(60);
        for (int kind = 0; kind < 3; kind++) {
            int order = kind;
            int reader = x.cursor(0, kind, -9, 1, 0, 5);
            DUE.is("take 50 of 60", 50, () -> x.take(reader, 50));
            DUE.isOutOfBounds("page 50 of a full page", () -> x.page(50));
            DUE.is("page 0 by kind " + kind, x.hit(0, order, -9, 0), () -> x.page(0));
            DUE.is("page 49 by kind " + kind, x.hit(0, order, -9, 49), () -> x.page(49));
            DUE.is("take 10 of 60", 10, () -> x.take(reader, 50));
            DUE.is("page 9 by kind " + kind, x.hit(0, order, -9, 59), () -> x.page(9));
        }
    }

    private static void takeSetsThePageAndTheEnd() {
        GroupCursors x = withObjects(6);
        int a = x.cursor(0, 0, 0, 1, 0, 2);
        int b = x.cursor(0, 1, 0, 1, 0, 9);
        x.tick(2);
        DUE.is("take at its end", 1, () -> x.take(a, 1));
        DUE.is("the end moves: none ends", 0, () -> x.tick(2));
        DUE.is("b's page", 2, () -> x.take(b, 2));
        DUE.is("a ends", 1, () -> x.tick(1));
        DUE.is("take of an ended one", -1, () -> x.take(a, 1));
        DUE.is("the page stays", 2, () -> x.told(11));
        DUE.are("the page of b", "3 1 throws.IndexOutOfBoundsException", 3, x::page);
        DUE.isWrongArgument("take(b, 0)", () -> x.take(b, 0));
        DUE.is("the page stays", 2, () -> x.told(11));
        DUE.is("b's end is 4 and 9: not yet", 0, () -> x.tick(8));
        DUE.is("b ends", 1, () -> x.tick(1));
        int c = x.cursor(0, 0, 0, 1, 0, 3);
        DUE.is("an end is from its opening on", 0, () -> x.tick(3));
        x.close(c);
        DUE.is("take of a closed one", -1, () -> x.take(c, 1));
    }

    private static void cursorRefuses() {
        GroupCursors x = withObjects(3);
        DUE.isOutOfBounds("view 1", () -> x.cursor(1, 0, 0, 1, 0, 1));
        DUE.isOutOfBounds("view -1 and all else", () -> x.cursor(-1, 3, 0, 0, 0, 0));
        DUE.isWrongArgument("kind 3", () -> x.cursor(0, 3, 0, 1, 0, 1));
        DUE.isWrongArgument("kind -1", () -> x.cursor(0, -1, 0, 1, 0, 1));
        DUE.isWrongArgument("slices 0", () -> x.cursor(0, 0, 0, 0, 0, 1));
        DUE.isWrongArgument("slices -1", () -> x.cursor(0, 0, 0, -1, 0, 1));
        DUE.isWrongArgument("slices 9", () -> x.cursor(0, 0, 0, 9, 0, 1));
        DUE.isWrongArgument("slice -1", () -> x.cursor(0, 0, 0, 4, -1, 1));
        DUE.isWrongArgument("slice 4 of 4", () -> x.cursor(0, 0, 0, 4, 4, 1));
        DUE.isWrongArgument("keep 0", () -> x.cursor(0, 0, 0, 1, 0, 0));
        DUE.isWrongArgument("keep 1001", () -> x.cursor(0, 0, 0, 1, 0, 1001));
        DUE.is("none was opened", 0, () -> x.told(8));
        DUE.is("slices 8, slice 7, keep 1000", 0, () -> x.cursor(0, 2, 0, 8, 7, 1000));
        DUE.is("keep 1", 1, () -> x.cursor(0, 1, 0, 1, 0, 1));
        x.letGo(0);
        DUE.isWrongState("a held view", () -> x.cursor(0, 0, 0, 1, 0, 1));
        DUE.isWrongArgument("a held view and keep 0", () -> x.cursor(0, 0, 0, 1, 0, 0));
        x.close(0);
        x.close(1);
        DUE.isWrongState("an ended view", () -> x.cursor(0, 0, 0, 1, 0, 1));
        DUE.isWrongArgument("an ended view and kind 3", () -> x.cursor(0, 3, 0, 1, 0, 1));
    }

    private static void cursorIsFullAt60() {
        GroupCursors x = withObjects(3);
        for (int i = 0; i < 60; i++) {
            int slice = i % 2;
            DUE.is("reader " + i, i, () -> x.cursor(0, 0, 0, 2, slice, 1000));
        }
        DUE.is("cursor beyond 60", -4, () -> x.cursor(0, 0, 0, 1, 0, 1));
        DUE.is("iterator beyond 60", -4, () -> x.iterator(0, 0, 0, -1));
        DUE.isWrongArgument("cursor beyond 60 and kind 3", () -> x.cursor(0, 3, 0, 1, 0, 1));
        DUE.isOutOfBounds("iterator beyond 60 and group 3", () -> x.iterator(0, 0, 0, 3));
        x.close(5);
        DUE.is("an ended one makes no room", -4, () -> x.cursor(0, 0, 0, 1, 0, 1));
        DUE.is("told(8)", 60, () -> x.told(8));
        DUE.isOutOfBounds("left(60)", () -> x.left(60));
        DUE.isOutOfBounds("next(60)", () -> x.next(60));
        for (int i = 0; i < 60; i++) {
            x.close(i);
        }
        x.letGo(0);
        DUE.isWrongState("cursor beyond 60 of an ended view", () -> x.cursor(0, 0, 0, 1, 0, 1));
        DUE.isWrongState("iterator beyond 60 of an ended view", () -> x.iterator(0, 0, 0, -1));
    }

    private static void takeRefuses() {
        GroupCursors x = withObjects(3);
        x.cursor(0, 0, 0, 1, 0, 1);
        x.iterator(0, 0, 0, -1);
        DUE.isOutOfBounds("reader -1", () -> x.take(-1, 1));
        DUE.isOutOfBounds("reader 2 and n 0", () -> x.take(2, 0));
        DUE.isWrongArgument("n 0", () -> x.take(0, 0));
        DUE.isWrongArgument("n -1", () -> x.take(0, -1));
        DUE.isWrongArgument("n 51", () -> x.take(0, 51));
        DUE.isWrongArgument("an iterator", () -> x.take(1, 1));
        x.close(0);
        x.close(1);
        DUE.isWrongArgument("n 51 of an ended one", () -> x.take(0, 51));
        DUE.isWrongArgument("an ended iterator", () -> x.take(1, 1));
        DUE.is("an ended one", -1, () -> x.take(0, 50));
    }

    private static void pageRefuses() {
        GroupCursors x = withObjects(3);
        DUE.isOutOfBounds("no page yet", () -> x.page(0));
        x.take(x.cursor(0, 0, 0, 1, 0, 1), 2);
        DUE.isOutOfBounds("page(-1)", () -> x.page(-1));
        DUE.isOutOfBounds("page(2)", () -> x.page(2));
        DUE.isOutOfBounds("page(50)", () -> x.page(50));
        DUE.isOutOfBounds("page(most)", () -> x.page(Integer.MAX_VALUE));
        DUE.is("page(1)", 2, () -> x.page(1));
    }

    // "the next n (1 .. 50) of its HITS, or as many as are left"
    private static void takeAtTheEdgesOfAPage() {
        for (int hits : new int[] {49, 50, 51}) {
            GroupCursors x = withObjects(hits);
            int reader = x.cursor(0, 0, 0, 1, 0, 1);
            DUE.is("take(50) of " + hits, Math.min(hits, 50), () -> x.take(reader, 50));
            DUE.is("told(11)", Math.min(hits, 50), () -> x.told(11));
            DUE.is("left", Math.max(hits - 50, 0), () -> x.left(reader));
            DUE.is("the last of the page", x.hit(0, 0, 0, Math.min(hits, 50) - 1), () -> x.page(Math.min(hits, 50) - 1));
            DUE.isOutOfBounds("beyond the page", () -> x.page(Math.min(hits, 50)));
        }
    }

    private static void takeGivesTheNextAndNoMore() {
        GroupCursors x = withObjects(7);
        int one = x.cursor(0, 0, 0, 1, 0, 1);
        int other = x.cursor(0, 0, 0, 1, 0, 1);
        DUE.are("each once", "0 5 2 4 1 6 3", 7, i -> {
            x.take(one, 1);
            return x.page(0);
        });
        DUE.is("another cursor has its own place", 7, () -> x.left(other));
        DUE.is("take(7) of 7", 7, () -> x.take(other, 7));
        DUE.is("its last", 3, () -> x.page(6));
    }

    // "these are the PAGE then"
    private static void aShorterPageHidesTheOneBefore() {
        GroupCursors x = withObjects(7);
        int reader = x.cursor(0, 0, 0, 1, 0, 1);
        x.take(reader, 4);
        DUE.is("told(11)", 4, () -> x.told(11));
        x.take(reader, 2);
        DUE.is("told(11)", 2, () -> x.told(11));
        DUE.are("the page", "1 6 throws.IndexOutOfBoundsException", 3, x::page);
        x.take(reader, 2);
        DUE.are("the page", "3 throws.IndexOutOfBoundsException", 2, x::page);
        x.take(reader, 2);
        DUE.is("told(11)", 0, () -> x.told(11));
        DUE.isOutOfBounds("an empty page", () -> x.page(0));
    }

    private static void thePageIsOneForAllCursors() {
        GroupCursors x = withObjects(7);
        int up = x.cursor(0, 0, 0, 1, 0, 1);
        int down = x.cursor(0, 1, 0, 1, 0, 1);
        int iterator = x.iterator(0, 0, 0, -1);
        x.take(up, 2);
        x.take(down, 1);
        DUE.are("the page is the last one's", "3 throws.IndexOutOfBoundsException", 2, x::page);
        x.next(iterator);
        DUE.is("an iterator has no page", 3, () -> x.page(0));
    }

    private static void thePageOutlivesItsCursorAndView() {
        GroupCursors x = withObjects(3);
        int reader = x.cursor(0, 0, 0, 1, 0, 1);
        x.take(reader, 3);
        x.letGo(0);
        x.close(reader);
        x.drop(0);
        x.tick(10000);
        DUE.is("the view has ended", 2, () -> x.state(0));
        DUE.is("take of it", -1, () -> x.take(reader, 1));
        DUE.are("the page stays", "0 2 1 throws.IndexOutOfBoundsException", 4, x::page);
    }

    private static void takeAtTheEdgesOfWhatIsLeft() {
        for (int n : new int[] {2, 3, 4}) {
            GroupCursors x = withObjects(3);
            int reader = x.cursor(0, 0, 0, 1, 0, 1);
            DUE.is("take(" + n + ") of 3", Math.min(n, 3), () -> x.take(reader, n));
            DUE.is("left", 3 - Math.min(n, 3), () -> x.left(reader));
            DUE.is("take again", 3 - Math.min(n, 3), () -> x.take(reader, n));
            DUE.is("take with none left", 0, () -> x.take(reader, n));
            DUE.is("it goes on", 0, () -> x.left(reader));
        }
    }

    private static void takeGivesEachHitOnceWhateverComesMeanwhile() {
        GroupCursors x = withObjects(7);
        int reader = x.cursor(0, 0, 0, 1, 0, 3);
        int other = x.cursor(0, 1, 0, 1, 0, 1000);
        DUE.are("each once", "0 5 2 4 1 6 3", 7, i -> {
            meanwhile(x, other, i);
            DUE.is("take(1)", 1, () -> x.take(reader, 1));
            return x.page(0);
        });
        DUE.is("and no more", 0, () -> x.take(reader, 1));
    }

    /** Calls that load other orders, move other readers and take the objects away. */
    private static void meanwhile(GroupCursors x, int other, int i) {
        x.hit(0, 1, 0, i);
        x.group(0, 2, i, 0);
        x.take(other, 2);
        x.drop(6 - i);
        x.add(i, -i, -i);
        x.commit();
        x.merge(100);
        x.tick(3);
        x.view();
        x.iterator(i + 1, 2, 5, -1);
    }
}
