import java.lang.reflect.Constructor;
import java.lang.reflect.Field;
import java.lang.reflect.Member;
import java.lang.reflect.Method;
import java.lang.reflect.Modifier;
import java.util.Arrays;
import java.util.Set;
import java.util.TreeSet;

/** The public face: just the constants, the constructor and the methods of the document. */
public final class FaceTest {
    private static final String[] METHODS = {
        "setLines(int, int, int)", "setPoint(int, int)", "addChannel(boolean, int, int)",
        "setMode(int, int, int, int, int)", "addNotch(int, int, int, int)", "set(int, int)",
        "start(int)", "step(int)", "hold(boolean)", "abort()", "append(int)", "clearText()",
        "faultPosition()", "run()", "undo()", "save(int)", "restore(int)", "frequency(int)",
        "target(int)", "gain(int, int)", "limit(int, int)", "channel(int, int)",
        "level(int, int)", "averaged(int, int)", "controlGain(int)", "driveAt(int)",
        "notchedBy(int)", "resonance(int, int)", "total(int)", "loopsLeft()", "wouldAbort(int)",
        "highest(int, int)",
    };
    private static final String[] CONSTANTS = {
        "BAD_INDEX", "BAD_VALUE", "NOT_POSSIBLE", "FULL", "REFUSED", "NONE",
    };

    private static boolean isPrivate(Member member) {
        return Modifier.isPrivate(member.getModifiers());
    }

    private static Set<String> openMethods(Due due) {
        Set<String> found = new TreeSet<>();
        for (Method method : ShakerSweep.class.getDeclaredMethods()) {
            if (isPrivate(method) || method.isSynthetic()) {
                continue;
            }
            String types = Arrays.toString(Arrays.stream(method.getParameterTypes())
                    .map(Class::getName).toArray());
            found.add(method.getName() + "(" + types.substring(1, types.length() - 1) + ")");
            due.holds(method + " is not a public int of objects",
                    method.getModifiers() == Modifier.PUBLIC && method.getReturnType() == int.class);
        }
        return found;
    }

    private static Set<String> openFields(Due due) {
        Set<String> found = new TreeSet<>();
        for (Field field : ShakerSweep.class.getDeclaredFields()) {
            if (isPrivate(field) || field.isSynthetic()) {
                continue;
            }
            found.add(field.getName());
            due.holds(field + " is not a public constant of int", field.getType() == int.class
                    && field.getModifiers() == (Modifier.PUBLIC | Modifier.STATIC | Modifier.FINAL));
        }
        return found;
    }

    public static void main(String[] args) {
        Due due = new Due("FaceTest");
        due.is("BAD_INDEX", ShakerSweep.BAD_INDEX, -1);
        due.is("BAD_VALUE", ShakerSweep.BAD_VALUE, -2);
        due.is("NOT_POSSIBLE", ShakerSweep.NOT_POSSIBLE, -3);
        due.is("FULL", ShakerSweep.FULL, -4);
        due.is("REFUSED", ShakerSweep.REFUSED, -5);
        due.is("NONE", ShakerSweep.NONE, -6);
        Set<String> methods = openMethods(due);
        due.holds("the methods are " + methods,
                methods.equals(new TreeSet<>(Arrays.asList(METHODS))));
        Set<String> fields = openFields(due);
        due.holds("the constants are " + fields,
                fields.equals(new TreeSet<>(Arrays.asList(CONSTANTS))));
        due.holds("the class is not public and final",
                ShakerSweep.class.getModifiers() == (Modifier.PUBLIC | Modifier.FINAL));
        Constructor<?>[] constructors = ShakerSweep.class.getDeclaredConstructors();
        due.holds("there is not just the public constructor", constructors.length == 1
                && constructors[0].getParameterCount() == 0
                && constructors[0].getModifiers() == Modifier.PUBLIC);
        due.end();
    }
}
