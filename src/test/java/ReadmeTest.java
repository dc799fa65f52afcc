import java.io.IOException;
import java.lang.reflect.Method;
import java.nio.file.Files;
import java.nio.file.Path;
import java.util.HashMap;
import java.util.Map;
import java.util.regex.Matcher;
import java.util.regex.Pattern;

/** The lines of README.md answer what stands behind them, and README.md names every call. */
public final class ReadmeTest {
    private static final Due DUE = new Due();
    private static final String NEW = "GroupCursors x = new GroupCursors();";
    private static final Pattern LINE =
        Pattern.compile("(?:int (\\w+) = )?x\\.(\\w+)\\(([^)]*)\\);\\s+// (-?\\w+):.*");

    private final GroupCursors x = new GroupCursors();
    private final Map<String, Long> names = new HashMap<>();

    public static void main(String[] args) throws IOException, ReflectiveOperationException {
        String readme = Files.readString(Path.of("README.md"));
        String block = readme.split("```java\n", 2)[1].split("```", 2)[0];
        String[] lines = block.split("\n");
        DUE.compare("the first line", NEW, lines[0]);
        ReadmeTest run = new ReadmeTest();
        for (int i = 1; i < lines.length; i++) {
            run.call(lines[i]);
        }
        for (Method m : GroupCursors.class.getDeclaredMethods()) {
            if (java.lang.reflect.Modifier.isPublic(m.getModifiers())) {
                DUE.is("README.md names " + m.getName(), true, () -> readme.contains("`" + m.getName() + "`"));
            }
        }
        DUE.end();
    }

    private void call(String line) throws ReflectiveOperationException {
        Matcher m = LINE.matcher(line);
        if (!m.matches()) {
            DUE.compare("a line", "a call with its answer", line);
            return;
        }
        Method method = methodOf(m.group(2));
        Object got = method.invoke(x, values(method, m.group(3)));
        DUE.compare(line, m.group(4), got.toString());
        if (m.group(1) != null) {
            names.put(m.group(1), ((Number) got).longValue());
        }
    }

    private static Method methodOf(String name) throws NoSuchMethodException {
        for (Method m : GroupCursors.class.getMethods()) {
            if (m.getName().equals(name)) {
                return m;
            }
        }
        throw new NoSuchMethodException(name);
    }

    private Object[] values(Method method, String text) {
        Class<?>[] types = method.getParameterTypes();
        String[] words = text.isEmpty() ? new String[0] : text.split(", ");
        Object[] values = new Object[words.length];
        for (int i = 0; i < words.length; i++) {
            long value = names.containsKey(words[i]) ? names.get(words[i]) : Long.parseLong(words[i]);
            values[i] = types[i] == int.class ? (Object) (int) value : (Object) value;
        }
        return values;
    }
}
