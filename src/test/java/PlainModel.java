import java.math.BigInteger;
import java.util.ArrayList;
import java.util.Comparator;
import java.util.HashSet;
import java.util.LinkedHashMap;
import java.util.List;
import java.util.NoSuchElementException;
import java.util.Set;
import java.util.function.IntToLongFunction;
import java.util.stream.Collectors;
import java.util.stream.IntStream;

/**
 * The document written down once more, as plainly as can be: nothing is counted on the way,
 * every state is looked up in what has been called so far, by the words of the document's terms.
 */
public final class PlainModel {
    private static final int FULL = -4;

    private static final class Obj {
        long group;
        long key;
        long sort;
        int segment = -1;
        boolean dropped;
        boolean fresh = true;

        boolean stands() {
            return segment >= 0 && !dropped;
        }
    }

    private static final class Seen {
        final List<Integer> has = new ArrayList<>();
        final Set<Integer> sees = new HashSet<>();
        boolean letGo;
    }

    private static final class Reading {
        int view;
        boolean cursor;
        List<Integer> hits;
        int given;
        long keep;
        long end;
        boolean closed;
    }

    private final List<Obj> objects = new ArrayList<>();
    private final List<Seen> views = new ArrayList<>();
    private final List<Reading> readers = new ArrayList<>();
    private List<Integer> lastPage = List.of();
    private int segments = 0;
    private long now = 0;

    /** The numbers below n by the mix of their keys, then the keys, as one text. */
    static String sorted(int n, IntToLongFunction key, long seed) {
        return IntStream.range(0, n).boxed()
            .sorted(Comparator.comparing((Integer i) -> Mix.of(key.applyAsLong(i), seed))
                .thenComparing(i -> key.applyAsLong(i)).thenComparing(i -> i))
            .map(i -> Integer.toString(i)).collect(Collectors.joining(" "));
    }

    private Obj obj(int i) {
        bounds(i >= 0 && i < objects.size());
        return objects.get(i);
    }

    private Seen seen(int i) {
        bounds(i >= 0 && i < views.size());
        return views.get(i);
    }

    private Reading reading(int i) {
        bounds(i >= 0 && i < readers.size());
        return readers.get(i);
    }

    private static void bounds(boolean holds) {
        if (!holds) {
            throw new IndexOutOfBoundsException();
        }
    }

    private static void argument(boolean holds) {
        if (!holds) {
            throw new IllegalArgumentException();
        }
    }

    private void open(int view) {
        if (state(view) != 0) {
            throw new IllegalStateException();
        }
    }

    private boolean ended(Reading r) {
        return r.closed || (r.cursor ? now > r.end : r.given == r.hits.size());
    }

    private long standing(int segment) {
        return objects.stream().filter(o -> o.stands() && o.segment == segment).count();
    }

    private long seers(int segment) {
        return IntStream.range(0, views.size())
            .filter(v -> state(v) != 2 && views.get(v).sees.contains(segment)).count();
    }

    private int segmentState(int segment) {
        return standing(segment) > 0 ? 0 : seers(segment) > 0 ? 1 : 2;
    }

    private long inState(int state) {
        return IntStream.range(0, segments).filter(s -> segmentState(s) == state).count();
    }

    private List<Integer> has(int view) {
        return state(view) == 2 ? List.of() : views.get(view).has;
    }

    private List<Integer> hits(int view, int kind, long seed) {
        Comparator<Integer> first;
        if (kind == 0) {
            first = Comparator.comparing(i -> objects.get(i).sort);
        } else if (kind == 1) {
            first = Comparator.comparing((Integer i) -> objects.get(i).sort).reversed();
        } else {
            first = Comparator.comparing(i -> Mix.of(objects.get(i).key, seed));
        }
        List<Integer> list = new ArrayList<>(has(view));
        list.sort(first.thenComparing(i -> objects.get(i).key).thenComparing(i -> i));
        return list;
    }

    private List<List<Integer>> grouped(int view, int kind, long seed) {
        LinkedHashMap<Long, List<Integer>> map = new LinkedHashMap<>();
        for (int i : hits(view, kind, seed)) {
            map.computeIfAbsent(objects.get(i).group, g -> new ArrayList<>()).add(i);
        }
        return new ArrayList<>(map.values());
    }

    private List<Integer> ofGroup(int view, int kind, long seed, int k) {
        seen(view);
        bounds(k >= 0 && k < groups(view));
        argument(kind >= 0 && kind <= 2);
        return grouped(view, kind, seed).get(k);
    }

    public int add(long group, long key, long sort) {
        if (objects.size() == 300) {
            return FULL;
        }
        Obj o = new Obj();
        o.group = group;
        o.key = key;
        o.sort = sort;
        objects.add(o);
        return objects.size() - 1;
    }

    public boolean drop(int object) {
        Obj o = obj(object);
        boolean was = o.dropped;
        o.dropped = true;
        return !was;
    }

    private int settle(List<Obj> coming) {
        if (segments == 40) {
            return FULL;
        }
        coming.forEach(o -> o.segment = segments);
        segments++;
        return coming.size();
    }

    public int commit() {
        List<Obj> coming = objects.stream().filter(o -> o.fresh && !o.dropped).toList();
        int answer = coming.isEmpty() ? 0 : settle(coming);
        if (answer != FULL) {
            objects.forEach(o -> o.fresh = false);
        }
        return answer;
    }

    public int merge(int n) {
        Set<Integer> small = new HashSet<>();
        for (int s = 0; s < segments; s++) {
            if (standing(s) > 0 && standing(s) < n) {
                small.add(s);
            }
        }
        if (small.size() < 2) {
            return 0;
        }
        return settle(objects.stream().filter(o -> o.stands() && small.contains(o.segment)).toList());
    }

    public long object(int object, int what) {
        Obj o = obj(object);
        bounds(what >= 0 && what <= 4);
        return List.of(o.group, o.key, o.sort, (long) o.segment, o.dropped ? 1L : 0L).get(what);
    }

    public int segment(int segment, int what) {
        bounds(segment >= 0 && segment < segments);
        bounds(what >= 0 && what <= 2);
        return what == 1 ? segmentState(segment) : (int) (what == 0 ? standing(segment) : seers(segment));
    }

    public int view() {
        if (views.size() == 30) {
            return FULL;
        }
        Seen v = new Seen();
        for (int i = 0; i < objects.size(); i++) {
            if (objects.get(i).stands()) {
                v.has.add(i);
                v.sees.add(objects.get(i).segment);
            }
        }
        views.add(v);
        return views.size() - 1;
    }

    public int letGo(int view) {
        Seen v = seen(view);
        open(view);
        long before = inState(2);
        v.letGo = true;
        return (int) (inState(2) - before);
    }

    public int state(int view) {
        if (!seen(view).letGo) {
            return 0;
        }
        return readers.stream().anyMatch(r -> r.view == view && !ended(r)) ? 1 : 2;
    }

    public int size(int view) {
        seen(view);
        return has(view).size();
    }

    public int hit(int view, int kind, long seed, int k) {
        seen(view);
        bounds(k >= 0 && k < has(view).size());
        argument(kind >= 0 && kind <= 2);
        return hits(view, kind, seed).get(k);
    }

    public int place(int view, int kind, long seed, int object) {
        seen(view);
        obj(object);
        argument(kind >= 0 && kind <= 2);
        return hits(view, kind, seed).indexOf(object);
    }

    public int groups(int view) {
        seen(view);
        return (int) has(view).stream().map(i -> objects.get(i).group).distinct().count();
    }

    public long group(int view, int kind, long seed, int k) {
        return objects.get(ofGroup(view, kind, seed, k).get(0)).group;
    }

    public int counted(int view, int kind, long seed, int k) {
        return ofGroup(view, kind, seed, k).size();
    }

    public int best(int view, int kind, long seed, int k, int j) {
        List<Integer> members = ofGroup(view, kind, seed, k);
        bounds(j >= 0 && j < members.size());
        return members.get(j);
    }

    private int read(int view, List<Integer> hits, int keep) {
        if (readers.size() == 60) {
            return FULL;
        }
        Reading r = new Reading();
        r.view = view;
        r.hits = hits;
        r.cursor = keep > 0;
        r.keep = keep;
        r.end = now + keep;
        readers.add(r);
        return readers.size() - 1;
    }

    public int cursor(int view, int kind, long seed, int slices, int slice, int keep) {
        seen(view);
        argument(kind >= 0 && kind <= 2);
        argument(slices >= 1 && slices <= 8);
        argument(slice >= 0 && slice <= slices - 1);
        argument(keep >= 1 && keep <= 1000);
        open(view);
        BigInteger m = BigInteger.valueOf(slices);
        List<Integer> of = hits(view, kind, seed).stream()
            .filter(i -> Mix.of(objects.get(i).key, 0).mod(m).intValue() == slice).toList();
        return read(view, of, keep);
    }

    public int iterator(int view, int kind, long seed, int k) {
        seen(view);
        List<Integer> of;
        if (k == -1) {
            argument(kind >= 0 && kind <= 2);
            of = hits(view, kind, seed);
        } else {
            of = ofGroup(view, kind, seed, k);
        }
        open(view);
        return read(view, of, 0);
    }

    public int take(int reader, int n) {
        Reading r = reading(reader);
        argument(n >= 1 && n <= 50 && r.cursor);
        if (ended(r)) {
            return -1;
        }
        int to = Math.min(r.hits.size(), r.given + n);
        lastPage = r.hits.subList(r.given, to);
        r.given = to;
        r.end = now + r.keep;
        return lastPage.size();
    }

    public int page(int i) {
        bounds(i >= 0 && i < lastPage.size());
        return lastPage.get(i);
    }

    public int next(int reader) {
        Reading r = reading(reader);
        argument(!r.cursor);
        if (ended(r)) {
            throw new NoSuchElementException();
        }
        r.given++;
        return r.hits.get(r.given - 1);
    }

    public int left(int reader) {
        Reading r = reading(reader);
        return ended(r) ? -1 : r.hits.size() - r.given;
    }

    public int close(int reader) {
        Reading r = reading(reader);
        long before = inState(2);
        r.closed = true;
        return (int) (inState(2) - before);
    }

    private long goingOn() {
        return readers.stream().filter(r -> !ended(r)).count();
    }

    public int tick(int n) {
        argument(n >= 0 && n <= 10000 && now + n <= 1000000000);
        long before = goingOn();
        now += n;
        return (int) (before - goingOn());
    }

    public int told(int what) {
        bounds(what >= 0 && what <= 11);
        return (int) switch (what) {
            case 0 -> objects.size();
            case 1 -> objects.stream().filter(o -> o.fresh && !o.dropped).count();
            case 2 -> segments;
            case 3, 4, 5 -> inState(what - 3);
            case 6 -> views.size();
            case 7 -> IntStream.range(0, views.size()).filter(v -> state(v) != 2).count();
            case 8 -> readers.size();
            case 9 -> goingOn();
            case 10 -> now;
            default -> lastPage.size();
        };
    }
}
