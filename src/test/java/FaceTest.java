import java.io.IOException;
import java.lang.reflect.Constructor;
import java.lang.reflect.Field;
import java.lang.reflect.Member;
import java.lang.reflect.Method;
import java.lang.reflect.Modifier;
import java.nio.file.Files;
import java.nio.file.Path;
import java.util.Arrays;
import java.util.Set;
import java.util.TreeSet;
import java.util.regex.Matcher;
import java.util.regex.Pattern;

/** The public face: just the constants, the constructor and the methods of the document. */
public final class FaceTest {
    private static final String[] METHODS = {
        "setLines(int, int, int)", "setPoint(int, int)", "addChannel(boolean, int, int)",
        "setMode(int, int, int, int, int)", "addNotch(int, int, int, int)", "set(int, int)",
        "start(int)", "step(int)", "hold(boolean)", "abort()", "append(int)", "clearText()",
        "faultPosition()", "run()", "undo()", "save(int)", "restore(int)", "frequency(int)",
        "target(int)", "gain(int, int)", "limit(int, int)", "channel(int, int)",
        "level(int, int)", "averaged(int, int)", "controlGain(int)", "driveAt(int)",
        "notchedBy(int)", "resonance(int, int)", "total(int)", "loopsLeft()", "wouldAbort(int)",
        "highest(int, int)",
    };
    private static final String[] CONSTANTS = {
        "BAD_INDEX", "BAD_VALUE", "NOT_POSSIBLE", "FULL", "REFUSED", "NONE",
    };

    private static boolean isPrivate(Member member) {
        return Modifier.isPrivate(member.getModifiers());
    }

    private static Set<String> openMethods(Due due) {
        Set<String> found = new TreeSet<>();
        for (Method method : ShakerSweep.class.getDeclaredMethods()) {
            if (isPrivate(method) || method.isSynthetic()) {
                continue;
            }
            String types = Arrays.toString(Arrays.stream(method.getParameterTypes())
                    .map(Class::getName).toArray());
            found.add(method.getName() + "(" + types.substring(1, types.length() - 1) + ")");
            due.holds(method + " is not a public int of objects",
                    method.getModifiers() == Modifier.PUBLIC && method.getReturnType() == int.class);
        }
        return found;
    }

    private static Set<String> openFields(Due due) {
        Set<String> found = new TreeSet<>();
        for (Field field : ShakerSweep.class.getDeclaredFields()) {
            if (isPrivate(field) || field.isSynthetic()) {
                continue;
            }
            found.add(field.getName());
            due.holds(field + " is not a public constant of int", field.getType() == int.class
                    && field.getModifiers() == (Modifier.PUBLIC | Modifier.STATIC | Modifier.FINAL));
        }
        return found;
    }

    /** The source declares what the document shows, word by word and in its order. */
    private static void declarations(Due due, String document, String source) {
        int from = document.indexOf("```java\n");
        int to = document.indexOf("```", from + 1);
        due.holds("the document shows no face", from >= 0 && to > from);
        int at = 0;
        int declared = 0;
        for (String row : document.substring(Math.max(0, from), Math.max(0, to)).split("\n")) {
            if (row.startsWith("    public ")) {
                declared++;
                String words = row.endsWith(");") ? row.replace(");", ") {") : row;
                int found = source.indexOf("\n" + words + "\n", at);
                due.holds("not declared, or not in its order: " + words, found >= at);
                at = Math.max(at, found);
            }
        }
        due.is("the declarations of the document", declared, 39);
    }

    /** The calls stand behind the words that the interface says ahead of them. */
    private static void headings(Due due, String document, String source) {
        Matcher said = Pattern.compile("(?m)^Ahead of the calls (.*) the interface says: (----.*)\\.$")
                .matcher(document);
        int calls = 0;
        while (said.find()) {
            int from = source.indexOf("    // " + said.group(2) + "\n");
            due.holds("the source does not say " + said.group(2), from >= 0);
            int to = source.indexOf("    // ----", from + 1);
            for (String call : said.group(1).replace("`", "").split(", ")) {
                calls++;
                int at = source.indexOf("    public int " + call + "(");
                due.holds(call + " is not behind " + said.group(2), from < at && at < to);
            }
        }
        due.is("the calls behind such words", calls, METHODS.length);
    }

    public static void main(String[] args) throws IOException {
        Due due = new Due("FaceTest");
        due.is("BAD_INDEX", ShakerSweep.BAD_INDEX, -1);
        due.is("BAD_VALUE", ShakerSweep.BAD_VALUE, -2);
        due.is("NOT_POSSIBLE", ShakerSweep.NOT_POSSIBLE, -3);
        due.is("FULL", ShakerSweep.FULL, -4);
        due.is("REFUSED", ShakerSweep.REFUSED, -5);
        due.is("NONE", ShakerSweep.NONE, -6);
        Set<String> methods = openMethods(due);
        due.holds("the methods are " + methods,
                methods.equals(new TreeSet<>(Arrays.asList(METHODS))));
        Set<String> fields = openFields(due);
        due.holds("the constants are " + fields,
                fields.equals(new TreeSet<>(Arrays.asList(CONSTANTS))));
        due.holds("the class is not public and final",
                ShakerSweep.class.getModifiers() == (Modifier.PUBLIC | Modifier.FINAL));
        Constructor<?>[] constructors = ShakerSweep.class.getDeclaredConstructors();
        due.holds("there is not just the public constructor", constructors.length == 1
                && constructors[0].getParameterCount() == 0
                && constructors[0].getModifiers() == Modifier.PUBLIC);
        String document = Files.readString(Path.of("../shared/DOC.md"));
        String source = Files.readString(Path.of("src/main/java/ShakerSweep.java"));
        declarations(due, document, source);
        headings(due, document, source);
        due.end();
    }
}
