import java.util.Arrays;
import java.util.NoSuchElementException;

/** Objects in groups, seen by views that are held, and read by cursors and iterators. */
public final class GroupCursors {
    public static final int FULL = -4;

    private static final int MOST_OBJECTS = 300;
    private static final int MOST_SEGMENTS = 40;
    private static final int MOST_VIEWS = 30;
    private static final int MOST_READERS = 60;
    private static final int MOST_ON_PAGE = 50;
    private static final int MOST_SLICES = 8;
    private static final int MOST_KEEP = 1000;
    private static final int MOST_TICK = 10000;
    private static final int LAST_NOW = 1000000000;

    private static final int LESSER_SORT = 0;
    private static final int GREATER_SORT = 1;
    private static final int LESSER_MIX = 2;

    private static final int LIVE = 0;
    private static final int KEPT = 1;
    private static final int FREED = 2;

    private static final int OPEN = 0;
    private static final int HELD = 1;
    private static final int ENDED = 2;

    private static final long SIGN_BIT = 1L << 63;

    private static final int NO_SEGMENT = -1;
    private static final int NOT_THERE = -1;
    private static final int ALL_GROUPS = -1;
    private static final int HAS_ENDED = -1;

    private final Stock stock = new Stock();
    private final Segments segments = new Segments();
    private final Ranking ranking = new Ranking(stock);
    private final View[] views = new View[MOST_VIEWS];
    private int viewCount = 0;
    private final Reader[] readers = new Reader[MOST_READERS];
    private int readerCount = 0;
    private final int[] pageRow = new int[MOST_ON_PAGE];
    private int pageCount = 0;
    private int now = 0;

    public GroupCursors() {
    }

    public int add(long group, long key, long sort) {
        return stock.count >= MOST_OBJECTS ? FULL : stock.append(group, key, sort);
    }

    public boolean drop(int object) throws IndexOutOfBoundsException {
        checkObject(object);
        if (stock.dropped[object]) {
            return false;
        }
        stock.dropped[object] = true;
        int home = stock.home[object];
        if (home != NO_SEGMENT) {
            segments.alive[home]--;
        }
        return true;
    }

    public int commit() {
        int coming = stock.countNew();
        if (coming == 0) {
            stock.firstNew = stock.count;
            return 0;
        }
        if (segments.count >= MOST_SEGMENTS) {
            return FULL;
        }
        stock.settleNew(segments.append(coming));
        return coming;
    }

    public int merge(int n) {
        if (segments.countBelow(n) < 2) {
            return 0;
        }
        if (segments.count >= MOST_SEGMENTS) {
            return FULL;
        }
        int moved = moveFromBelow(n, segments.count);
        segments.emptyBelow(n);
        segments.append(moved);
        return moved;
    }

    public long object(int object, int what) throws IndexOutOfBoundsException {
        checkObject(object);
        switch (what) {
            case 0:
                return stock.group[object];
            case 1:
                return stock.key[object];
            case 2:
                return stock.sort[object];
            case 3:
                return stock.home[object];
            case 4:
                return stock.dropped[object] ? 1 : 0;
            default:
                throw new IndexOutOfBoundsException("no such what");
        }
    }

    public int segment(int segment, int what) throws IndexOutOfBoundsException {
        if (segment < 0 || segment >= segments.count) {
            throw new IndexOutOfBoundsException("no such segment");
        }
        switch (what) {
            case 0:
                return segments.alive[segment];
            case 1:
                return segments.stateOf(segment);
            case 2:
                return segments.seers[segment];
            default:
                throw new IndexOutOfBoundsException("no such what");
        }
    }

    public int view() {
        if (viewCount >= MOST_VIEWS) {
            return FULL;
        }
        int[] has = stock.listStanding();
        ranking.load(has, has.length);
        views[viewCount] = new View(has, ranking.listGroups(), segments.see());
        viewCount++;
        return viewCount - 1;
    }

    public int letGo(int view) throws IndexOutOfBoundsException, IllegalStateException {
        View v = viewAt(view);
        checkOpen(v);
        v.state = HELD;
        return endIfIdle(v);
    }

    public int state(int view) throws IndexOutOfBoundsException {
        return viewAt(view).state;
    }

    public int size(int view) throws IndexOutOfBoundsException {
        return viewAt(view).count;
    }

    public int hit(int view, int kind, long seed, int k)
            throws IndexOutOfBoundsException, IllegalArgumentException {
        View v = viewAt(view);
        if (k < 0 || k >= v.count) {
            throw new IndexOutOfBoundsException("no such hit");
        }
        rankHits(v, kind, seed);
        return ranking.memberAt(k);
    }

    public int place(int view, int kind, long seed, int object)
            throws IndexOutOfBoundsException, IllegalArgumentException {
        View v = viewAt(view);
        checkObject(object);
        rankHits(v, kind, seed);
        return ranking.find(object);
    }

    public int groups(int view) throws IndexOutOfBoundsException {
        return viewAt(view).groupCount;
    }

    public long group(int view, int kind, long seed, int k)
            throws IndexOutOfBoundsException, IllegalArgumentException {
        rankGroup(viewAt(view), kind, seed, k);
        return stock.group[ranking.memberAt(0)];
    }

    public int counted(int view, int kind, long seed, int k)
            throws IndexOutOfBoundsException, IllegalArgumentException {
        rankGroup(viewAt(view), kind, seed, k);
        return ranking.count;
    }

    public int best(int view, int kind, long seed, int k, int j)
            throws IndexOutOfBoundsException, IllegalArgumentException {
        rankGroup(viewAt(view), kind, seed, k);
        return ranking.memberAt(j);
    }

    public int cursor(int view, int kind, long seed, int slices, int slice, int keep)
            throws IndexOutOfBoundsException, IllegalArgumentException, IllegalStateException {
        View v = viewAt(view);
        checkKind(kind);
        checkSlice(slices, slice);
        checkKeep(keep);
        checkOpen(v);
        if (readerCount >= MOST_READERS) {
            return FULL;
        }
        rankHits(v, kind, seed);
        ranking.narrowToSlice(slices, slice);
        Reader r = new Reader(v, ranking.copyRow(), true, keep);
        r.end = now + keep;
        return openReader(r);
    }

    public int iterator(int view, int kind, long seed, int k)
            throws IndexOutOfBoundsException, IllegalArgumentException, IllegalStateException {
        View v = viewAt(view);
        if (k != ALL_GROUPS) {
            checkGroup(v, k);
        }
        checkKind(kind);
        checkOpen(v);
        if (readerCount >= MOST_READERS) {
            return FULL;
        }
        rankHits(v, kind, seed);
        if (k != ALL_GROUPS) {
            ranking.narrowToGroup(k);
        }
        Reader r = new Reader(v, ranking.copyRow(), false, 0);
        int number = openReader(r);
        endIfAllGiven(r);
        return number;
    }

    public int take(int reader, int n) throws IndexOutOfBoundsException, IllegalArgumentException {
        Reader r = readerAt(reader);
        if (n < 1 || n > MOST_ON_PAGE) {
            throw new IllegalArgumentException("n is not 1 .. 50");
        }
        if (!r.isCursor) {
            throw new IllegalArgumentException("an iterator gives no pages");
        }
        if (r.ended) {
            return HAS_ENDED;
        }
        pageCount = Math.min(n, r.countLeft());
        System.arraycopy(r.hits, r.given, pageRow, 0, pageCount);
        r.given += pageCount;
        r.end = now + r.keep;
        return pageCount;
    }

    public int page(int i) throws IndexOutOfBoundsException {
        if (i < 0 || i >= pageCount) {
            throw new IndexOutOfBoundsException("the page has no such object");
        }
        return pageRow[i];
    }

    public int next(int reader)
            throws IndexOutOfBoundsException, IllegalArgumentException, NoSuchElementException {
        Reader r = readerAt(reader);
        if (r.isCursor) {
            throw new IllegalArgumentException("a cursor gives pages");
        }
        if (r.ended || r.countLeft() == 0) {
            throw new NoSuchElementException("the iterator has ended");
        }
        int object = r.hits[r.given];
        r.given++;
        endIfAllGiven(r);
        return object;
    }

    public int left(int reader) throws IndexOutOfBoundsException {
        Reader r = readerAt(reader);
        return r.ended ? HAS_ENDED : r.countLeft();
    }

    public int close(int reader) throws IndexOutOfBoundsException {
        return endReader(readerAt(reader));
    }

    public int tick(int n) throws IllegalArgumentException {
        if (n < 0 || n > MOST_TICK || now > LAST_NOW - n) {
            throw new IllegalArgumentException("n is not 0 .. 10000, or too late");
        }
        now += n;
        int ending = 0;
        for (int i = 0; i < readerCount; i++) {
            Reader r = readerAt(i);
            if (r.isCursor && !r.ended && now > r.end) {
                endReader(r);
                ending++;
            }
        }
        return ending;
    }

    public int told(int what) throws IndexOutOfBoundsException {
        switch (what) {
            case 0:
                return stock.count;
            case 1:
                return stock.countNew();
            case 2:
                return segments.count;
            case 3:
                return segments.countIn(LIVE);
            case 4:
                return segments.countIn(KEPT);
            case 5:
                return segments.countIn(FREED);
            case 6:
                return viewCount;
            case 7:
                return countViewsGoingOn();
            case 8:
                return readerCount;
            case 9:
                return countReadersGoingOn();
            case 10:
                return now;
            case 11:
                return pageCount;
            default:
                throw new IndexOutOfBoundsException("no such what");
        }
    }

    private void checkObject(int object) {
        if (object < 0 || object >= stock.count) {
            throw new IndexOutOfBoundsException("no such object");
        }
    }

    private View viewAt(int view) {
        View found = view < 0 || view >= viewCount ? null : views[view];
        if (found == null) {
            throw new IndexOutOfBoundsException("no such view");
        }
        return found;
    }

    private Reader readerAt(int reader) {
        Reader found = reader < 0 || reader >= readerCount ? null : readers[reader];
        if (found == null) {
            throw new IndexOutOfBoundsException("no such reader");
        }
        return found;
    }

    private static void checkGroup(View v, int k) {
        if (k < 0 || k >= v.groupCount) {
            throw new IndexOutOfBoundsException("no such group");
        }
    }

    private static void checkKind(int kind) {
        if (kind != LESSER_SORT && kind != GREATER_SORT && kind != LESSER_MIX) {
            throw new IllegalArgumentException("kind is not 0 .. 2");
        }
    }

    private static void checkSlice(int slices, int slice) {
        if (slices < 1 || slices > MOST_SLICES) {
            throw new IllegalArgumentException("slices is not 1 .. 8");
        }
        if (slice < 0 || slice >= slices) {
            throw new IllegalArgumentException("slice is not below slices");
        }
    }

    private static void checkKeep(int keep) {
        if (keep < 1 || keep > MOST_KEEP) {
            throw new IllegalArgumentException("keep is not 1 .. 1000");
        }
    }

    private static void checkOpen(View v) {
        if (v.state != OPEN) {
            throw new IllegalStateException("the view is not open");
        }
    }

    private int moveFromBelow(int n, int to) {
        int moved = 0;
        for (int i = 0; i < stock.count; i++) {
            if (stock.stands(i) && segments.isBelow(stock.home[i], n)) {
                stock.home[i] = to;
                moved++;
            }
        }
        return moved;
    }

    private void rankHits(View v, int kind, long seed) {
        checkKind(kind);
        ranking.load(v.has, v.count);
        ranking.arrange(kind, seed);
    }

    private void rankGroup(View v, int kind, long seed, int k) {
        checkGroup(v, k);
        rankHits(v, kind, seed);
        ranking.narrowToGroup(k);
    }

    private int openReader(Reader r) {
        readers[readerCount] = r;
        readerCount++;
        r.view.readersGoingOn++;
        return readerCount - 1;
    }

    private void endIfAllGiven(Reader r) {
        if (r.countLeft() == 0) {
            endReader(r);
        }
    }

    /** Answers how many segments are freed by that. */
    private int endReader(Reader r) {
        if (r.ended) {
            return 0;
        }
        r.ended = true;
        r.view.readersGoingOn--;
        return endIfIdle(r.view);
    }

    /** Ends a view that was let go and is read no more; answers how many segments are freed. */
    private int endIfIdle(View v) {
        if (v.state != HELD || v.readersGoingOn > 0) {
            return 0;
        }
        v.state = ENDED;
        v.count = 0;
        v.groupCount = 0;
        return segments.unsee(v.sees);
    }

    private int countViewsGoingOn() {
        int n = 0;
        for (int i = 0; i < viewCount; i++) {
            if (viewAt(i).state != ENDED) {
                n++;
            }
        }
        return n;
    }

    private int countReadersGoingOn() {
        int n = 0;
        for (int i = 0; i < readerCount; i++) {
            if (!readerAt(i).ended) {
                n++;
            }
        }
        return n;
    }

    /** The objects, numbered as they came; those from firstNew on are new. */
    private static final class Stock {
        final long[] group = new long[MOST_OBJECTS];
        final long[] key = new long[MOST_OBJECTS];
        final long[] sort = new long[MOST_OBJECTS];
        /** The first object of the same group: a group's small number, fit to be an index. */
        final int[] kin = new int[MOST_OBJECTS];
        final int[] home = new int[MOST_OBJECTS];
        final boolean[] dropped = new boolean[MOST_OBJECTS];
        int count = 0;
        int firstNew = 0;

        /** The caller has seen that there is room. */
        int append(long itsGroup, long itsKey, long itsSort) {
            int number = count;
            group[number] = itsGroup;
            key[number] = itsKey;
            sort[number] = itsSort;
            kin[number] = firstOf(itsGroup);
            home[number] = NO_SEGMENT;
            count++;
            return number;
        }

        /** The first object of a group, or the one that comes next if it has none yet. */
        private int firstOf(long itsGroup) {
            for (int i = 0; i < count; i++) {
                if (group[i] == itsGroup) {
                    return i;
                }
            }
            return count;
        }

        boolean stands(int object) {
            return home[object] != NO_SEGMENT && !dropped[object];
        }

        int countNew() {
            int n = 0;
            for (int i = firstNew; i < count; i++) {
                if (!dropped[i]) {
                    n++;
                }
            }
            return n;
        }

        void settleNew(int segment) {
            for (int i = firstNew; i < count; i++) {
                if (!dropped[i]) {
                    home[i] = segment;
                }
            }
            firstNew = count;
        }

        private int countStanding() {
            int n = 0;
            for (int i = 0; i < count; i++) {
                if (stands(i)) {
                    n++;
                }
            }
            return n;
        }

        int[] listStanding() {
            int[] list = new int[countStanding()];
            int n = 0;
            for (int i = 0; i < count && n < list.length; i++) {
                if (stands(i)) {
                    list[n] = i;
                    n++;
                }
            }
            return list;
        }
    }

    /** The segments, numbered as they were made. */
    private static final class Segments {
        /** How many objects that are not dropped are in each. */
        final int[] alive = new int[MOST_SEGMENTS];
        /** How many views that have not ended see each. */
        final int[] seers = new int[MOST_SEGMENTS];
        int count = 0;

        /** The caller has seen that there is room. */
        int append(int objects) {
            alive[count] = objects;
            count++;
            return count - 1;
        }

        int stateOf(int segment) {
            if (alive[segment] > 0) {
                return LIVE;
            }
            return seers[segment] > 0 ? KEPT : FREED;
        }

        int countIn(int state) {
            int n = 0;
            for (int i = 0; i < count; i++) {
                if (stateOf(i) == state) {
                    n++;
                }
            }
            return n;
        }

        boolean isBelow(int segment, int n) {
            return alive[segment] > 0 && alive[segment] < n;
        }

        int countBelow(int n) {
            int found = 0;
            for (int i = 0; i < count; i++) {
                if (isBelow(i, n)) {
                    found++;
                }
            }
            return found;
        }

        void emptyBelow(int n) {
            for (int i = 0; i < count; i++) {
                if (isBelow(i, n)) {
                    alive[i] = 0;
                }
            }
        }

        /** A new view sees the live segments: these alone have objects for it. */
        boolean[] see() {
            boolean[] sees = new boolean[count];
            for (int i = 0; i < sees.length; i++) {
                if (alive[i] > 0) {
                    sees[i] = true;
                    seers[i]++;
                }
            }
            return sees;
        }

        /** Answers how many segments are freed by that. */
        int unsee(boolean[] sees) {
            int freed = 0;
            for (int i = 0; i < sees.length; i++) {
                if (sees[i]) {
                    seers[i]--;
                    if (stateOf(i) == FREED) {
                        freed++;
                    }
                }
            }
            return freed;
        }
    }

    /** What was there when it was opened. */
    private static final class View {
        final int[] has;
        final boolean[] sees;
        int count;
        int groupCount;
        int state = OPEN;
        int readersGoingOn = 0;

        View(int[] has, int groupCount, boolean[] sees) {
            this.has = has;
            this.count = has.length;
            this.groupCount = groupCount;
            this.sees = sees;
        }
    }

    /** A cursor or an iterator, with its hits as they were when it was opened. */
    private static final class Reader {
        final View view;
        final int[] hits;
        final boolean isCursor;
        final int keep;
        int given = 0;
        int end = 0;
        boolean ended = false;

        Reader(View view, int[] hits, boolean isCursor, int keep) {
            this.view = view;
            this.hits = hits;
            this.isCursor = isCursor;
            this.keep = keep;
        }

        int countLeft() {
            return hits.length - given;
        }
    }

    /** One row of objects that each call loads, puts in order and narrows anew. */
    private static final class Ranking {
        private final Stock stock;
        private int[] row = new int[MOST_OBJECTS];
        private int[] spare = new int[MOST_OBJECTS];
        /** By object: what is compared first, the lesser one coming first. */
        private final long[] weight = new long[MOST_OBJECTS];
        /** By a group's kin number: whether the group has been listed. */
        private final boolean[] met = new boolean[MOST_OBJECTS];
        private final int[] kins = new int[MOST_OBJECTS];
        int count = 0;

        Ranking(Stock stock) {
            this.stock = stock;
        }

        void load(int[] objects, int n) {
            count = Math.min(n, objects.length);
            System.arraycopy(objects, 0, row, 0, count);
        }

        void arrange(int kind, long seed) {
            for (int i = 0; i < count; i++) {
                weight[row[i]] = weigh(row[i], kind, seed);
            }
            for (int width = 1; width < count; width *= 2) {
                for (int from = 0; from < count; from += 2 * width) {
                    mergeRuns(from, Math.min(from + width, count), Math.min(from + 2 * width, count));
                }
                int[] merged = spare;
                spare = row;
                row = merged;
            }
        }

        private long weigh(int object, int kind, long seed) {
            if (kind == LESSER_SORT) {
                return stock.sort[object];
            }
            if (kind == GREATER_SORT) {
                // ~ turns the order round for every long, as - does not for the least one
                return ~stock.sort[object];
            }
            // with its sign bit turned, a number without sign compares as one with a sign
            return mix(stock.key[object], seed) ^ SIGN_BIT;
        }

        private static long mix(long key, long seed) {
            long z = key ^ seed * 0x9E3779B97F4A7C15L;
            z = (z ^ z >>> 30) * 0xBF58476D1CE4E5B9L;
            z = (z ^ z >>> 27) * 0x94D049BB133111EBL;
            return z ^ z >>> 31;
        }

        /** Merges two runs of the row that stand side by side into the spare row. */
        private void mergeRuns(int from, int middle, int to) {
            int a = from;
            int b = middle;
            for (int i = from; i < to; i++) {
                if (b >= to || a < middle && comesBefore(row[a], row[b])) {
                    spare[i] = row[a];
                    a++;
                } else {
                    spare[i] = row[b];
                    b++;
                }
            }
        }

        private boolean comesBefore(int a, int b) {
            if (weight[a] != weight[b]) {
                return weight[a] < weight[b];
            }
            if (stock.key[a] != stock.key[b]) {
                return stock.key[a] < stock.key[b];
            }
            return a < b;
        }

        int memberAt(int i) {
            if (i < 0 || i >= count) {
                throw new IndexOutOfBoundsException("no such object");
            }
            return row[i];
        }

        int find(int object) {
            for (int i = 0; i < count; i++) {
                if (row[i] == object) {
                    return i;
                }
            }
            return NOT_THERE;
        }

        int[] copyRow() {
            return Arrays.copyOf(row, count);
        }

        /** Lists the groups in the order of their first objects; answers how many there are. */
        int listGroups() {
            for (int i = 0; i < count; i++) {
                met[stock.kin[row[i]]] = false;
            }
            int n = 0;
            for (int i = 0; i < count; i++) {
                int kin = stock.kin[row[i]];
                if (!met[kin]) {
                    met[kin] = true;
                    kins[n] = kin;
                    n++;
                }
            }
            return n;
        }

        /** Leaves the objects of group k alone: none if there is no such group. */
        void narrowToGroup(int k) {
            int kin = k >= 0 && k < listGroups() ? kins[k] : NOT_THERE;
            int kept = 0;
            for (int i = 0; i < count; i++) {
                if (stock.kin[row[i]] == kin) {
                    row[kept] = row[i];
                    kept++;
                }
            }
            count = kept;
        }

        /** Leaves the objects of a slice alone; the caller has seen that slices is above 0. */
        void narrowToSlice(int slices, int slice) {
            int kept = 0;
            for (int i = 0; i < count; i++) {
                if (sliceOf(stock.key[row[i]], slices) == slice) {
                    row[kept] = row[i];
                    kept++;
                }
            }
            count = kept;
        }

        private static long sliceOf(long key, int slices) {
            long z = mix(key, 0);
            // z may be above the greatest long, but its half is not
            return ((z >>> 1) % slices * 2 + (z & 1)) % slices;
        }
    }
}
