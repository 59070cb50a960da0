import java.lang.reflect.Method;

/**
 * Plays rows of calls on a new object, each with the answer that is due, as in
 * {@code setLines(10, 40, 200) = 9} or {@code undo() = NOT_POSSIBLE}. The row
 * {@code type h;r;} appends a text, byte by byte. A row may stand behind a number of times, as in
 * {@code 3x step(1) = 1}. Empty rows and rows behind a # are passed over.
 */
final class Script {
    private final Due due;
    private final String name;
    private final ShakerSweep object = new ShakerSweep();

    Script(Due due, String name) {
        this.due = due;
        this.name = name;
    }

    /** Plays the rows on an object that is new and made ready by other rows. */
    static Script played(Due due, String name, String rows) {
        return new Script(due, name).play(rows);
    }

    ShakerSweep object() {
        return object;
    }

    Script play(String rows) {
        for (String row : rows.split("\n")) {
            String call = row.strip();
            if (!call.isEmpty() && !call.startsWith("#")) {
                playRow(call);
            }
        }
        return this;
    }

    private void playRow(String row) {
        if (row.startsWith("type ")) {
            type(row.substring(5));
            return;
        }
        if (row.matches("[0-9]+x .*")) {
            int times = Integer.parseInt(row.substring(0, row.indexOf('x')));
            for (int time = 0; time < times; time++) {
                playRow(row.substring(row.indexOf(' ') + 1));
            }
            return;
        }
        String[] sides = row.split(" = ");
        String method = sides[0].substring(0, sides[0].indexOf('('));
        String inside = sides[0].substring(sides[0].indexOf('(') + 1, sides[0].indexOf(')'));
        String[] arguments = inside.isEmpty() ? new String[0] : inside.split(", ");
        due.is(name + ": " + sides[0], call(method, arguments), value(sides[1]));
    }

    private void type(String text) {
        int before = object.total(13);
        for (int place = 0; place < text.length(); place++) {
            due.is(name + ": append " + text.charAt(place),
                    object.append(text.charAt(place)), before + place + 1);
        }
    }

    private int call(String name, String[] arguments) {
        try {
            for (Method method : ShakerSweep.class.getMethods()) {
                if (method.getName().equals(name)
                        && method.getParameterCount() == arguments.length) {
                    return (Integer) method.invoke(object, arguments(method, arguments));
                }
            }
        } catch (ReflectiveOperationException e) {
            throw new IllegalStateException(name, e);
        }
        throw new IllegalStateException("no call " + name);
    }

    private static Object[] arguments(Method method, String[] words) {
        Object[] values = new Object[words.length];
        for (int place = 0; place < words.length; place++) {
            boolean truth = method.getParameterTypes()[place] == boolean.class;
            values[place] = truth ? (Object) Boolean.valueOf(words[place]) : value(words[place]);
        }
        return values;
    }

    private static int value(String word) {
        switch (word) {
            case "BAD_INDEX": return -1;
            case "BAD_VALUE": return -2;
            case "NOT_POSSIBLE": return -3;
            case "FULL": return -4;
            case "REFUSED": return -5;
            case "NONE": return -6;
            case "MIN": return Integer.MIN_VALUE;
            case "MAX": return Integer.MAX_VALUE;
            default: return Integer.parseInt(word);
        }
    }
}
