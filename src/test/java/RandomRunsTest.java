import java.lang.reflect.InvocationTargetException;
import java.lang.reflect.Method;
import java.util.ArrayList;
import java.util.HashMap;
import java.util.List;
import java.util.Map;
import java.util.Random;
import java.util.TreeMap;

/**
 * Runs of 512 calls, drawn from fixed seeds, on the class and on the plain model: every answer
 * is the same. All promises at once, in states that no one thinks of.
 */
public final class RandomRunsTest {
    private static final int CALLS = 512;

    /** How often each call comes, in the runs of a kind; a call that is not named does not come. */
    private static final String[] MIXES = {
        "add 60 drop 12 commit 12 merge 4 object 8 segment 10 view 8 letGo 5 state 6 size 6 hit 12 place 8 groups 5"
            + " group 8 counted 8 best 8 cursor 10 iterator 10 take 14 page 14 next 20 left 10 close 6 tick 5 told 14",
        "add 300 drop 10 commit 3 merge 1 object 4 view 2 letGo 1 hit 6 place 4 groups 3 group 6 counted 4 best 6"
            + " cursor 4 iterator 3 take 6 page 6 next 6 told 4",
        "add 20 drop 14 commit 20 merge 6 object 6 segment 20 view 8 letGo 6 state 4 size 2 cursor 3 iterator 3"
            + " next 4 close 3 tick 2 told 14",
        "add 40 drop 20 commit 10 merge 4 segment 14 view 8 letGo 7 state 10 iterator 12 cursor 12 next 60 take 30"
            + " page 10 left 20 close 10 tick 10 told 20",
        "add 30 commit 4 view 30 letGo 4 cursor 60 iterator 60 take 20 next 20 left 20 page 10 tick 4 told 10",
    };

    private static final Map<String, Method> REAL = methods(GroupCursors.class);
    private static final Map<String, Method> PLAIN = methods(PlainModel.class);

    private final Random random;
    private final boolean fewValues;
    private final boolean wild;
    private final List<String> names = new ArrayList<>();
    private final GroupCursors real = new GroupCursors();
    private final PlainModel plain = new PlainModel();

    private RandomRunsTest(long seed, String mix) {
        random = new Random(seed);
        fewValues = random.nextInt(3) > 0;
        wild = random.nextInt(3) == 0;
        String[] words = mix.split(" ");
        for (int i = 0; i < words.length; i += 2) {
            for (int n = Integer.parseInt(words[i + 1]); n > 0; n--) {
                names.add(words[i]);
            }
        }
    }

    public static void main(String[] args) {
        int rounds = args.length > 0 ? Integer.parseInt(args[0]) : 60;
        long first = args.length > 1 ? Long.parseLong(args[1]) : 1;
        Map<String, Integer> tally = new TreeMap<>();
        boolean good = true;
        for (int round = 0; round < rounds && good; round++) {
            for (int kind = 0; kind < MIXES.length && good; kind++) {
                good = new RandomRunsTest(first + round * 31L + kind * 1000003L, MIXES[kind]).run(tally);
            }
        }
        good = good && meetsEverything(tally);
        if (!good) {
            System.exit(1);
        }
    }

    private static Map<String, Method> methods(Class<?> of) {
        Map<String, Method> found = new HashMap<>();
        for (Method m : of.getDeclaredMethods()) {
            if (java.lang.reflect.Modifier.isPublic(m.getModifiers())) {
                found.put(m.getName(), m);
            }
        }
        return found;
    }

    private boolean run(Map<String, Integer> tally) {
        StringBuilder told = new StringBuilder();
        for (int i = 0; i < CALLS; i++) {
            String name = names.get(random.nextInt(names.size()));
            Object[] args = arguments(name);
            String want = outcome(PLAIN.get(name), plain, args);
            String got = outcome(REAL.get(name), real, args);
            told.append("  ").append(name).append(java.util.Arrays.toString(args)).append(" ").append(got).append("\n");
            tally.merge(name + " " + shape(want), 1, Integer::sum);
            if (!want.equals(got)) {
                System.out.println("a run on a new object:\n" + told + "the last is wrong, due is " + want);
                return false;
            }
        }
        return true;
    }

    private static String shape(String answer) {
        return answer.startsWith("throws") || answer.equals("-4") || answer.equals("-1") ? answer : "answered";
    }

    private static String outcome(Method m, Object on, Object[] args) {
        try {
            return String.valueOf(m.invoke(on, args));
        } catch (InvocationTargetException e) {
            return "throws." + e.getCause().getClass().getSimpleName();
        } catch (IllegalAccessException e) {
            return "no access to " + m;
        }
    }

    private Object[] arguments(String name) {
        switch (name) {
            case "add":
                return new Object[] {value(), value(), value()};
            case "drop":
                return new Object[] {number(plain.told(0))};
            case "merge":
                return new Object[] {number(20)};
            case "object":
                return new Object[] {number(plain.told(0)), number(5)};
            case "segment":
                return new Object[] {number(plain.told(2)), number(3)};
            case "letGo", "state", "size", "groups":
                return new Object[] {number(plain.told(6))};
            case "hit", "place", "group", "counted", "iterator":
                return ofView(name);
            case "best":
                return ofBest();
            case "cursor":
                int slices = number(9);
                return new Object[] {lateView(), kind(), value(), slices, number(slices), odd() ? number(1001) : 1 + random.nextInt(6)};
            case "take":
                return new Object[] {lateReader(), odd() ? number(51) : 1 + random.nextInt(5)};
            case "next", "left", "close":
                return new Object[] {lateReader()};
            case "page":
                return new Object[] {number(plain.told(11))};
            case "tick":
                return new Object[] {random.nextInt(20) == 0 ? number(10001) : random.nextInt(4)};
            case "told":
                return new Object[] {number(12)};
            default:
                return new Object[0];
        }
    }

    private Object[] ofView(String name) {
        int view = lateView();
        boolean there = view >= 0 && view < plain.told(6);
        int most = name.equals("place") ? plain.told(0) : !there ? 3 : name.equals("hit") ? plain.size(view) : plain.groups(view);
        int k = name.equals("iterator") && random.nextBoolean() ? -1 : number(most);
        return new Object[] {view, kind(), value(), k};
    }

    private Object[] ofBest() {
        int view = lateView();
        int kind = kind();
        long seed = value();
        int k = number(view >= 0 && view < plain.told(6) ? plain.groups(view) : 3);
        int most = 3;
        try {
            most = plain.counted(view, kind, seed, k);
        } catch (RuntimeException e) {
            // then j is any small number
        }
        return new Object[] {view, kind, seed, k, number(most)};
    }

    private boolean odd() {
        return random.nextInt(12) == 0;
    }

    private int kind() {
        return odd() ? number(3) : random.nextInt(3);
    }

    /** Mostly one of the last views, which are the ones that are open. */
    private int lateView() {
        int n = plain.told(6);
        return n > 0 && random.nextInt(3) > 0 ? n - 1 - random.nextInt(Math.min(n, 3)) : number(n);
    }

    private int lateReader() {
        int n = plain.told(8);
        return n > 0 && random.nextBoolean() ? n - 1 - random.nextInt(Math.min(n, 4)) : number(n);
    }

    /** A number from 0 to n less 1, now and then one beside that. */
    private int number(int n) {
        int dice = random.nextInt(40);
        if (dice == 0) {
            return -1;
        }
        if (dice == 1) {
            return Math.max(n, 0);
        }
        if (dice == 2 && wild) {
            return random.nextBoolean() ? Integer.MIN_VALUE : Integer.MAX_VALUE;
        }
        if (dice == 3 && wild) {
            return random.nextInt();
        }
        return n < 1 ? 0 : random.nextInt(n);
    }

    private long value() {
        if (fewValues) {
            return random.nextInt(7) - 3;
        }
        int dice = random.nextInt(10);
        return dice == 0 ? Long.MIN_VALUE : dice == 1 ? Long.MAX_VALUE : dice < 5 ? random.nextInt(40) - 20 : random.nextLong();
    }

    /** That the runs did come to each kind of answer, or they would prove less than they seem to. */
    private static boolean meetsEverything(Map<String, Integer> tally) {
        String bounds = "throws.IndexOutOfBoundsException";
        String argument = "throws.IllegalArgumentException";
        String state = "throws.IllegalStateException";
        List<String> due = new ArrayList<>();
        for (String name : REAL.keySet()) {
            due.add(name + " answered");
        }
        for (String name : List.of("add", "commit", "merge", "view", "cursor", "iterator")) {
            due.add(name + " -4");
        }
        for (String name : List.of("drop", "object", "segment", "letGo", "state", "size", "hit", "place", "groups",
            "group", "counted", "best", "cursor", "iterator", "take", "page", "next", "left", "close", "told")) {
            due.add(name + " " + bounds);
        }
        for (String name : List.of("hit", "place", "group", "counted", "best", "cursor", "iterator", "take", "next", "tick")) {
            due.add(name + " " + argument);
        }
        due.addAll(List.of("letGo " + state, "cursor " + state, "iterator " + state));
        due.addAll(List.of("next throws.NoSuchElementException", "take -1", "left -1", "place -1"));
        due.removeAll(tally.keySet());
        if (!due.isEmpty()) {
            System.out.println("the runs never came to: " + due);
        }
        return due.isEmpty();
    }
}
