import java.io.IOException;
import java.lang.reflect.Executable;
import java.lang.reflect.Field;
import java.lang.reflect.Method;
import java.lang.reflect.Modifier;
import java.nio.file.Files;
import java.nio.file.Path;
import java.util.ArrayList;
import java.util.HashSet;
import java.util.List;
import java.util.Set;
import java.util.regex.Matcher;
import java.util.regex.Pattern;

/**
 * What of ../shared/LANGUAGE.md can be seen in the text of the class or by reflection. The rules'
 * numbers stand at the checks; FaceTest has the rest of rule 1.
 */
public final class LanguageTest {
    private static final Due DUE = new Due();
    private static final Path SOURCE = Path.of("src/main/java/GroupCursors.java");
    private static final String NEVER =
        "->|::|\\b(try|catch|finally|synchronized|assert|native|volatile|transient|var|double|float|Object)\\b"
            + "|\\bstatic\\s*\\{|\\bwhile\\s*\\(\\s*true|\\bfor\\s*\\(\\s*;|\"\\s*\\+|\\+\\s*\"";
    private static final String THROWN =
        "throw new (IllegalStateException|IllegalArgumentException|IndexOutOfBoundsException|NoSuchElementException)"
            + "\\((\"\")?\\);";
    private static final String LIBRARY =
        "System\\.arraycopy|Arrays\\.(copyOf|copyOfRange|fill)|(Math|Integer|Long)\\.(min|max|compare|abs)";

    public static void main(String[] args) throws IOException {
        String text = Files.readString(SOURCE);
        String code = withoutCommentsAndTexts(text);
        List<Class<?>> classes = new ArrayList<>(List.of(GroupCursors.class.getDeclaredClasses()));
        classes.add(GroupCursors.class);

        textIsPlain(text);
        importsAreAllowed(code);
        nothingForbiddenIsWritten(code);
        libraryIsAllowed(code);
        throwsAreWrittenOut(code);
        methodsAreShort(code);
        privateNamesAreNotPublicOnes(classes);
        sizesAreSmall(classes);
        classes.forEach(LanguageTest::fieldsAreAllowed);
        DUE.end();
    }

    /** Comments go, and the inside of every text, but no line break, so that lines can be counted. */
    private static String withoutCommentsAndTexts(String text) {
        Matcher m = Pattern.compile("//[^\n]*|/\\*.*?\\*/|\"(\\\\.|[^\"\\\\])*\"", Pattern.DOTALL).matcher(text);
        return m.replaceAll(r -> r.group().startsWith("\"") ? "\"\"" : r.group().replaceAll("[^\n]", ""));
    }

    private static void none(String rule, String pattern, String code) {
        Matcher m = Pattern.compile(pattern).matcher(code);
        DUE.compare(rule, "none", m.find() ? m.group() : "none");
    }

    // before rule 1: no package line; rule 4: signs 1 to 127
    private static void textIsPlain(String text) {
        none("a package line", "(?m)^\\s*package\\b", text);
        none("rule 4: another sign", "[^\\x01-\\x7f]", text);
    }

    private static void importsAreAllowed(String code) {
        none("rule 4: another import", "(?m)^import (?!java\\.util\\.(Arrays|NoSuchElementException|ArrayList|List|Iterator);).*", code);
        none("rule 4: a full name", "(?<!import )\\bjava\\.", code);
    }

    // rules 2, 3, 5, 6, 9, 10
    private static void nothingForbiddenIsWritten(String code) {
        none("a form that is not allowed", NEVER, code);
    }

    private static void libraryIsAllowed(String code) {
        none("rule 4: another call of the library",
            "(?<![.\\w])(?!" + LIBRARY + ")(System|Arrays|Math|Integer|Long|Character|Boolean|Thread|Runtime)\\.\\w+", code);
    }

    // rule 6: the classes that the document names, each with a written text or none
    private static void throwsAreWrittenOut(String code) {
        none("rule 6: another throw", "\\bthrow (?!" + THROWN.substring("throw ".length()) + ")[^;]*;", code);
        DUE.is("the class throws", true, () -> Pattern.compile(THROWN).matcher(code).find());
    }

    // rule 11: some sixty lines; a method of a class inside is indented by four more
    private static void methodsAreShort(String code) {
        String[] lines = code.split("\n", -1);
        int methods = 0;
        for (int i = 0; i < lines.length; i++) {
            int end = endOfMethod(lines, i);
            if (end > i) {
                methods++;
                String name = lines[i].strip();
                int length = end - i + 1;
                DUE.is("rule 11: is short: " + name, true, () -> length <= 60);
            }
        }
        int found = methods;
        DUE.is("methods are found", true, () -> found > 50);
    }

    private static int endOfMethod(String[] lines, int from) {
        Matcher m = Pattern.compile("^( {4}| {8})(?! )(?!.*\\bclass\\b)(?!.*=)[^;]*\\w\\([^;]*$").matcher(lines[from]);
        if (!m.find()) {
            return from;
        }
        for (int i = from; i < lines.length; i++) {
            if (lines[i].equals(m.group(1) + "}")) {
                return i;
            }
        }
        return from;
    }

    // rule 1: "No private method bears the name of a public one."
    private static void privateNamesAreNotPublicOnes(List<Class<?>> classes) {
        Set<String> face = new HashSet<>();
        for (Method m : GroupCursors.class.getDeclaredMethods()) {
            if (Modifier.isPublic(m.getModifiers())) {
                face.add(m.getName());
            }
        }
        for (Class<?> c : classes) {
            for (Method m : c.getDeclaredMethods()) {
                DUE.is("rule 1: " + m + " bears the name of a public one", false,
                    () -> !Modifier.isPublic(m.getModifiers()) && face.contains(m.getName()));
            }
        }
    }

    // rule 11: parameters, classes, fields
    private static void sizesAreSmall(List<Class<?>> classes) {
        DUE.is("rule 11: at most twelve classes", true, () -> classes.size() <= 12);
        for (Class<?> c : classes) {
            List<Executable> all = new ArrayList<>(List.of(c.getDeclaredMethods()));
            all.addAll(List.of(c.getDeclaredConstructors()));
            for (Executable e : all) {
                DUE.is("rule 11: at most seven parameters: " + e, true, () -> e.getParameterCount() <= 7);
            }
            long fields = List.of(c.getDeclaredFields()).stream().filter(f -> !Modifier.isStatic(f.getModifiers())).count();
            DUE.is("rule 11: at most twenty fields: " + c, true, () -> fields <= 20);
            DUE.is("rule 2: no class inside a class inside: " + c, true,
                () -> c == GroupCursors.class || c.getDeclaredClasses().length == 0);
        }
    }

    // rule 5: static fields are final and constants; rule 3: types
    private static void fieldsAreAllowed(Class<?> c) {
        Set<Class<?>> constants = Set.of(int.class, long.class, boolean.class, char.class, String.class);
        for (Field f : c.getDeclaredFields()) {
            if (Modifier.isStatic(f.getModifiers())) {
                DUE.is("rule 5: final: " + f, true, () -> Modifier.isFinal(f.getModifiers()));
                DUE.is("rule 5: a constant: " + f, true, () -> constants.contains(f.getType()));
            } else {
                DUE.is("rule 3: " + f, true, () -> isAllowed(f.getType()));
            }
        }
    }

    private static boolean isAllowed(Class<?> type) {
        Class<?> of = type.isArray() ? type.getComponentType() : type;
        return of.isPrimitive() || of == String.class || of.getEnclosingClass() == GroupCursors.class;
    }
}
