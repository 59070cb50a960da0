import java.io.IOException;
import java.lang.reflect.Field;
import java.lang.reflect.Method;
import java.lang.reflect.Modifier;
import java.nio.file.Files;
import java.nio.file.Path;
import java.util.Arrays;
import java.util.Set;
import java.util.TreeSet;
import java.util.regex.Matcher;
import java.util.regex.Pattern;

/** Rules of LANGUAGE.md that can be read off the source (without its comments) or the classes. */
public final class LanguageTest {
    private static final Path SOURCE = Path.of("src/main/java/ShakerSweep.java");

    /** What must not stand in the source, each with the number of its rule. */
    private static final String[][] FORBIDDEN = {
        {"1", "\\b(protected|package)\\b"},
        {"2", "->|::|\\bnew\\s+\\w+\\s*\\([^)]*\\)\\s*\\{"},
        {"4", "Exact\\b|\\bSystem\\.(?!arraycopy)|\\bimport (?!java\\.util\\.Arrays;)"},
        {"4", "\\bArrays\\.(?!fill\\b|copyOf\\b|copyOfRange\\b)"},
        {"5", "\\bstatic\\s*\\{"},
        {"6", "\\b(throw|throws|try|catch|finally|synchronized|assert|yield)\\b"},
        {"6", "\\b(equals|hashCode|toString)\\b"},
        {"9", "\\bwhile\\s*\\(\\s*true|for\\s*\\(\\s*;\\s*;"},
        {"13", "\\b(Random|Thread|Runtime|Date|Instant|Clock|Files?|nanoTime)\\b"},
    };

    /** Rule 4: the library's classes that may be named, beside the classes of the program. */
    private static final Set<String> LIBRARY = Set.of("Arrays", "System", "Math", "Integer", "Long",
            "String", "StringBuilder", "ArrayList", "List", "Iterator", "Iterable", "Comparable");

    private static String code(String source) {
        return source.replaceAll("(?s)/\\*.*?\\*/", "").replaceAll("//[^\n]*", "");
    }

    private static void source(Due due, String code) {
        for (String[] rule : FORBIDDEN) {
            Matcher matcher = Pattern.compile(rule[1]).matcher(code);
            boolean found = matcher.find();
            due.holds("rule " + rule[0] + ": " + (found ? matcher.group() : ""), !found);
        }
    }

    /** Rule 4: no name of the library but those it lists. */
    private static void names(Due due, String code) {
        Set<String> own = new TreeSet<>(Set.of("ShakerSweep"));
        Arrays.stream(ShakerSweep.class.getDeclaredClasses())
                .forEach(inside -> own.add(inside.getSimpleName()));
        Matcher name = Pattern.compile("\\b[A-Z]\\w*[a-z]\\w*").matcher(code);
        while (name.find()) {
            due.holds("rule 4: " + name.group(),
                    own.contains(name.group()) || LIBRARY.contains(name.group()));
        }
        Matcher use = Pattern.compile("\\b(Integer|Long|Math)\\.(\\w+)(\\(?)").matcher(code);
        while (use.find()) {
            due.holds("rule 4: " + use.group(), use.group(3).equals("(")
                    && isOverWholeNumbers("java.lang." + use.group(1), use.group(2)));
        }
    }

    /** Rule 4: of Integer, Long and Math just the static functions over int and long. */
    private static boolean isOverWholeNumbers(String owner, String name) {
        try {
            return Arrays.stream(Class.forName(owner).getMethods())
                    .filter(method -> method.getName().equals(name))
                    .filter(method -> Modifier.isStatic(method.getModifiers()))
                    .anyMatch(method -> isWhole(method.getReturnType())
                            && Arrays.stream(method.getParameterTypes())
                                    .allMatch(LanguageTest::isWhole));
        } catch (ClassNotFoundException e) {
            return false;
        }
    }

    private static boolean isWhole(Class<?> type) {
        return type == int.class || type == long.class;
    }

    /** Rule 11: methods stay short. What a run makes: no method but a constructor makes anything. */
    private static void bodies(Due due, String code) {
        Matcher method = Pattern.compile("(?ms)^( {4}| {8})(\\w[^\n;=]*\\)) \\{\n.*?^\\1\\}").matcher(code);
        int methods = 0;
        while (method.find()) {
            methods++;
            String head = method.group(2);
            boolean constructor = head.matches("(public )?[A-Z]\\w*\\(.*");
            due.holds("rule 11: long: " + head, method.group().split("\n").length <= 60);
            due.holds("makes an object: " + head,
                    constructor || !method.group().matches("(?s).*\\bnew\\b.*"));
        }
        due.holds("only " + methods + " methods are seen", methods > 80);
    }

    private static void classes(Due due, Set<String> open) {
        Class<?>[] inside = ShakerSweep.class.getDeclaredClasses();
        due.holds("rule 11: too many classes", inside.length <= 12);
        for (Class<?> one : inside) {
            due.holds("rule 2: " + one, Modifier.isStatic(one.getModifiers())
                    && Modifier.isPrivate(one.getModifiers()));
            fields(due, one);
            methods(due, one, open);
        }
        fields(due, ShakerSweep.class);
        methods(due, ShakerSweep.class, open);
    }

    private static void fields(Due due, Class<?> owner) {
        int own = 0;
        for (Field field : owner.getDeclaredFields()) {
            boolean constant = Modifier.isStatic(field.getModifiers());
            own += constant ? 0 : 1;
            due.holds("rule 5: " + field, !constant || Modifier.isFinal(field.getModifiers()));
        }
        due.holds("rule 11: too many fields in " + owner, own <= 20);
    }

    /** Rule 1: a name of the face stands for a call of the face alone. */
    private static void methods(Due due, Class<?> owner, Set<String> open) {
        for (Method method : owner.getDeclaredMethods()) {
            boolean isOpen = owner == ShakerSweep.class && Modifier.isPublic(method.getModifiers());
            due.holds("rule 1: " + method, isOpen || !open.contains(method.getName()));
            due.holds("rule 11: parameters of " + method, method.getParameterCount() <= 7);
        }
    }

    public static void main(String[] args) throws IOException {
        Due due = new Due("LanguageTest");
        Set<String> open = new TreeSet<>();
        Arrays.stream(ShakerSweep.class.getDeclaredMethods())
                .filter(method -> Modifier.isPublic(method.getModifiers()))
                .forEach(method -> open.add(method.getName()));
        due.is("the calls of the face", open.size(), 32);
        String code = code(Files.readString(SOURCE));
        source(due, code);
        names(due, code);
        bodies(due, code);
        classes(due, open);
        due.end();
    }
}
