import java.lang.reflect.Array;
import java.lang.reflect.Field;
import java.lang.reflect.Modifier;
import java.util.ArrayDeque;
import java.util.Collections;
import java.util.Deque;
import java.util.IdentityHashMap;
import java.util.Set;

/**
 * The room that an object of the class takes: all calls of a run live in one room, so the rows are
 * made by the constructor and used again.
 */
public final class RoomTest {
    /** Some 600,000 objects and arrays and 7.3 million fields and elements are one room. */
    private static final int OBJECTS = 600_000 / 100;
    private static final int ELEMENTS = 7_300_000 / 100;

    private static final String BUSY = """
            setLines(5, 13, 100) = 9
            setPoint(5, 500) = 1
            setPoint(12, 900) = 2
            addChannel(true, 1000, 200000) = 0
            addChannel(false, 500, 200000) = 1
            setMode(1, 0, 10, 3, 9000) = 9500
            addNotch(1, 5, 20, 1000) = 0
            set(5, 9) = 1
            save(0) = 0
            start(100) = 9
            step(20) = 20
            save(1) = 1
            hold(true) = 4
            step(5) = 5
            hold(false) = 4
            type g1;h;s5;r;x;
            faultPosition() = NONE
            run() = 0
            restore(0) = 0
            run() = 5
            restore(1) = 1
            undo() = 4
            clearText() = 12
            total(0) = 3
            step(50) = 4
            start(7) = 9
            loopsLeft() = 73
            wouldAbort(300) = NONE
            resonance(1, 0) = 0
            total(12) = 5
            """;

    private static Set<Object> held(Object root) throws IllegalAccessException {
        Set<Object> seen = Collections.newSetFromMap(new IdentityHashMap<>());
        Deque<Object> open = new ArrayDeque<>();
        seen.add(root);
        open.add(root);
        while (!open.isEmpty()) {
            for (Object part : partsOf(open.remove())) {
                if (part != null && seen.add(part)) {
                    open.add(part);
                }
            }
        }
        return seen;
    }

    private static Object[] partsOf(Object one) throws IllegalAccessException {
        if (one instanceof Object[]) {
            return (Object[]) one;
        }
        Field[] fields = one.getClass().isArray() ? new Field[0] : one.getClass().getDeclaredFields();
        Object[] parts = new Object[fields.length];
        for (int place = 0; place < fields.length; place++) {
            Field field = fields[place];
            if (!Modifier.isStatic(field.getModifiers()) && !field.getType().isPrimitive()) {
                field.setAccessible(true);
                parts[place] = field.get(one);
            }
        }
        return parts;
    }

    private static int elementsOf(Set<Object> objects) {
        int elements = 0;
        for (Object one : objects) {
            elements += one.getClass().isArray()
                    ? Array.getLength(one) : one.getClass().getDeclaredFields().length;
        }
        return elements;
    }

    public static void main(String[] args) throws IllegalAccessException {
        Due due = new Due("RoomTest");
        Script script = new Script(due, "a busy object");
        Set<Object> atFirst = held(script.object());
        due.holds(atFirst.size() + " objects and arrays", atFirst.size() <= OBJECTS);
        due.holds(elementsOf(atFirst) + " fields and elements", elementsOf(atFirst) <= ELEMENTS);
        due.holds("only " + atFirst.size() + " objects are seen", atFirst.size() > 100);
        script.play(BUSY);
        Set<Object> then = held(script.object());
        due.is("the objects behind a run", then.size(), atFirst.size());
        due.holds("a call made an object that is kept", atFirst.containsAll(then));
        due.end();
    }
}
