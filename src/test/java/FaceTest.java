import java.lang.reflect.Constructor;
import java.lang.reflect.Field;
import java.lang.reflect.Member;
import java.lang.reflect.Method;
import java.lang.reflect.Modifier;
import java.util.TreeSet;

/** The public face is the document's, and nothing else can be seen from outside. */
public final class FaceTest {
    private static final String BOUNDS = " throws java.lang.IndexOutOfBoundsException";
    private static final String ARGUMENT = ",java.lang.IllegalArgumentException";
    private static final String STATE = ",java.lang.IllegalStateException";

    private static final String[] METHODS = {
        "public int GroupCursors.add(long,long,long)",
        "public boolean GroupCursors.drop(int)" + BOUNDS,
        "public int GroupCursors.commit()",
        "public int GroupCursors.merge(int)",
        "public long GroupCursors.object(int,int)" + BOUNDS,
        "public int GroupCursors.segment(int,int)" + BOUNDS,
        "public int GroupCursors.view()",
        "public int GroupCursors.letGo(int)" + BOUNDS + STATE,
        "public int GroupCursors.state(int)" + BOUNDS,
        "public int GroupCursors.size(int)" + BOUNDS,
        "public int GroupCursors.hit(int,int,long,int)" + BOUNDS + ARGUMENT,
        "public int GroupCursors.place(int,int,long,int)" + BOUNDS + ARGUMENT,
        "public int GroupCursors.groups(int)" + BOUNDS,
        "public long GroupCursors.group(int,int,long,int)" + BOUNDS + ARGUMENT,
        "public int GroupCursors.counted(int,int,long,int)" + BOUNDS + ARGUMENT,
        "public int GroupCursors.best(int,int,long,int,int)" + BOUNDS + ARGUMENT,
        "public int GroupCursors.cursor(int,int,long,int,int,int)" + BOUNDS + ARGUMENT + STATE,
        "public int GroupCursors.iterator(int,int,long,int)" + BOUNDS + ARGUMENT + STATE,
        "public int GroupCursors.take(int,int)" + BOUNDS + ARGUMENT,
        "public int GroupCursors.page(int)" + BOUNDS,
        "public int GroupCursors.next(int)" + BOUNDS + ARGUMENT + ",java.util.NoSuchElementException",
        "public int GroupCursors.left(int)" + BOUNDS,
        "public int GroupCursors.close(int)" + BOUNDS,
        "public int GroupCursors.tick(int) throws java.lang.IllegalArgumentException",
        "public int GroupCursors.told(int)" + BOUNDS,
    };

    public static void main(String[] args) {
        Due due = new Due();
        Class<GroupCursors> face = GroupCursors.class;
        due.is("the class is public and final", Modifier.PUBLIC | Modifier.FINAL, () -> face.getModifiers());
        TreeSet<String> seen = new TreeSet<>();
        for (Method m : face.getDeclaredMethods()) {
            addVisible(seen, m, m.toString());
        }
        for (Constructor<?> c : face.getDeclaredConstructors()) {
            addVisible(seen, c, c.toString());
        }
        for (Field f : face.getDeclaredFields()) {
            addVisible(seen, f, f.toString());
        }
        TreeSet<String> want = new TreeSet<>(java.util.List.of(METHODS));
        want.add("public GroupCursors()");
        want.add("public static final int GroupCursors.FULL");
        due.compare("the face", String.join("\n", want), String.join("\n", seen));
        due.is("FULL", -4, () -> GroupCursors.FULL);
        for (Class<?> inside : face.getDeclaredClasses()) {
            due.is(inside.getName() + " is static", true, () -> Modifier.isStatic(inside.getModifiers()));
            due.is(inside.getName() + " is public or protected", false,
                () -> (inside.getModifiers() & (Modifier.PUBLIC | Modifier.PROTECTED)) != 0);
        }
        due.end();
    }

    private static void addVisible(TreeSet<String> seen, Member member, String text) {
        if (!Modifier.isPrivate(member.getModifiers()) && !member.isSynthetic()) {
            seen.add(text);
        }
    }
}
