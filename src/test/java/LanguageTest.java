import java.io.IOException;
import java.lang.reflect.Field;
import java.lang.reflect.Method;
import java.lang.reflect.Modifier;
import java.nio.file.Files;
import java.nio.file.Path;
import java.util.Arrays;
import java.util.Set;
import java.util.TreeSet;
import java.util.regex.Matcher;
import java.util.regex.Pattern;

/** Rules of LANGUAGE.md that can be read off the source (without its comments) or the classes. */
public final class LanguageTest {
    private static final Path SOURCE = Path.of("src/main/java/ShakerSweep.java");

    /** What must not stand in the source, each with the number of its rule. */
    private static final String[][] FORBIDDEN = {
        {"1", "\\b(protected|package)\\b"},
        {"2", "->|::|\\bnew\\s+\\w+\\s*\\([^)]*\\)\\s*\\{"},
        {"4", "Exact\\b|\\bSystem\\.(?!arraycopy)|\\bimport (?!java\\.util\\.Arrays;)"},
        {"4", "\\bArrays\\.(?!fill\\b|copyOf\\b|copyOfRange\\b)"},
        {"5", "\\bstatic\\s*\\{"},
        {"6", "\\b(throw|throws|try|catch|finally|synchronized|assert|yield)\\b"},
        {"6", "\\b(equals|hashCode|toString)\\b"},
        {"9", "\\bwhile\\s*\\(\\s*true|for\\s*\\(\\s*;\\s*;"},
        {"13", "\\b(Random|Thread|Runtime|Date|Instant|Clock|Files?|nanoTime)\\b"},
    };

    private static String code(String source) {
        return source.replaceAll("(?s)/\\*.*?\\*/", "").replaceAll("//[^\n]*", "");
    }

    private static void source(Due due, String code) {
        for (String[] rule : FORBIDDEN) {
            Matcher matcher = Pattern.compile(rule[1]).matcher(code);
            boolean found = matcher.find();
            due.holds("rule " + rule[0] + ": " + (found ? matcher.group() : ""), !found);
        }
    }

    /** Rule 11: methods stay short. */
    private static void lengths(Due due, String code) {
        Matcher method = Pattern.compile("(?ms)^( {4}| {8})(\\w[^\n;=]*\\)) \\{\n.*?^\\1\\}").matcher(code);
        int methods = 0;
        while (method.find()) {
            methods++;
            due.holds("rule 11: long: " + method.group(2), method.group().split("\n").length <= 60);
        }
        due.holds("only " + methods + " methods are seen", methods > 80);
    }

    private static void classes(Due due, Set<String> open) {
        Class<?>[] inside = ShakerSweep.class.getDeclaredClasses();
        due.holds("rule 11: too many classes", inside.length <= 12);
        for (Class<?> one : inside) {
            due.holds("rule 2: " + one, Modifier.isStatic(one.getModifiers())
                    && Modifier.isPrivate(one.getModifiers()));
            fields(due, one);
            methods(due, one, open);
        }
        fields(due, ShakerSweep.class);
        methods(due, ShakerSweep.class, open);
    }

    private static void fields(Due due, Class<?> owner) {
        int own = 0;
        for (Field field : owner.getDeclaredFields()) {
            boolean constant = Modifier.isStatic(field.getModifiers());
            own += constant ? 0 : 1;
            due.holds("rule 5: " + field, !constant || Modifier.isFinal(field.getModifiers()));
        }
        due.holds("rule 11: too many fields in " + owner, own <= 20);
    }

    /** Rule 1: a name of the face stands for a call of the face alone. */
    private static void methods(Due due, Class<?> owner, Set<String> open) {
        for (Method method : owner.getDeclaredMethods()) {
            boolean isOpen = owner == ShakerSweep.class && Modifier.isPublic(method.getModifiers());
            due.holds("rule 1: " + method, isOpen || !open.contains(method.getName()));
            due.holds("rule 11: parameters of " + method, method.getParameterCount() <= 7);
        }
    }

    public static void main(String[] args) throws IOException {
        Due due = new Due("LanguageTest");
        Set<String> open = new TreeSet<>();
        Arrays.stream(ShakerSweep.class.getDeclaredMethods())
                .filter(method -> Modifier.isPublic(method.getModifiers()))
                .forEach(method -> open.add(method.getName()));
        due.is("the calls of the face", open.size(), 32);
        String code = code(Files.readString(SOURCE));
        source(due, code);
        lengths(due, code);
        classes(due, open);
        due.end();
    }
}
