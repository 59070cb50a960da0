import java.lang.reflect.Method;
import java.util.List;

/**
 * Plays rows of calls on a new object, each with the answer that is due, as in
 * {@code setLines(10, 40, 200) = 9} or {@code undo() = NOT_POSSIBLE}. The row
 * {@code type h;r;} appends a text, byte by byte; {@code fault of h;r = 3} puts a text in place of
 * the one there is and asks for its fault position. A row may stand behind a number of times, as in
 * {@code 3x step(1) = 1}, or behind {@code same}: then nothing that can be seen may become different
 * by it. Behind a row {@code remember}, a row {@code as remembered} asks whether all that can be
 * seen of the state is as it was there. Empty rows and rows behind a # are passed over.
 */
final class Script {
    private final Due due;
    private final String name;
    private final ShakerSweep object = new ShakerSweep();
    private List<Integer> remembered = List.of();

    Script(Due due, String name) {
        this.due = due;
        this.name = name;
    }

    /** Plays the rows on an object that is new and made ready by other rows. */
    static Script played(Due due, String name, String rows) {
        return new Script(due, name).play(rows);
    }

    ShakerSweep object() {
        return object;
    }

    Script play(String rows) {
        for (String row : rows.split("\n")) {
            String call = row.strip();
            if (!call.isEmpty() && !call.startsWith("#")) {
                playRow(call);
            }
        }
        return this;
    }

    private void playRow(String row) {
        if (row.startsWith("type ")) {
            type(row.substring(5));
        } else if (row.startsWith("fault of ")) {
            playFault(row);
        } else if (row.startsWith("same ")) {
            List<Integer> before = Seen.ofObject(object);
            playRow(row.substring(5));
            due.holds(name + ": not the " + row, Seen.ofObject(object).equals(before));
        } else if (row.equals("remember")) {
            remembered = Seen.ofState(object);
        } else if (row.equals("as remembered")) {
            due.holds(name + ": not " + row, Seen.ofState(object).equals(remembered));
        } else if (row.matches("[0-9]+x .*")) {
            int times = Integer.parseInt(row.substring(0, row.indexOf('x')));
            for (int time = 0; time < times; time++) {
                playRow(row.substring(row.indexOf(' ') + 1));
            }
        } else {
            playCall(row);
        }
    }

    private void playCall(String row) {
        String[] sides = row.split(" = ");
        String method = sides[0].substring(0, sides[0].indexOf('('));
        String inside = sides[0].substring(sides[0].indexOf('(') + 1, sides[0].indexOf(')'));
        String[] arguments = inside.isEmpty() ? new String[0] : inside.split(", ");
        due.is(name + ": " + sides[0], call(method, arguments), value(sides[1]));
    }

    private void playFault(String row) {
        int answer = row.lastIndexOf(" = ");
        object.clearText();
        type(row.substring(Math.min("fault of ".length(), answer), answer));
        due.is(name + ": " + row, object.faultPosition(), value(row.substring(answer + 3)));
    }

    private void type(String text) {
        int before = object.total(13);
        for (int place = 0; place < text.length(); place++) {
            due.is(name + ": append " + text.charAt(place),
                    object.append(text.charAt(place)), before + place + 1);
        }
    }

    private int call(String name, String[] arguments) {
        try {
            for (Method method : ShakerSweep.class.getMethods()) {
                if (method.getName().equals(name)
                        && method.getParameterCount() == arguments.length) {
                    return (Integer) method.invoke(object, arguments(method, arguments));
                }
            }
        } catch (ReflectiveOperationException e) {
            throw new IllegalStateException(name, e);
        }
        throw new IllegalStateException("no call " + name);
    }

    private static Object[] arguments(Method method, String[] words) {
        Object[] values = new Object[words.length];
        for (int place = 0; place < words.length; place++) {
            boolean truth = method.getParameterTypes()[place] == boolean.class;
            values[place] = truth ? (Object) Boolean.valueOf(words[place]) : value(words[place]);
        }
        return values;
    }

    private static int value(String word) {
        switch (word) {
            case "BAD_INDEX": return -1;
            case "BAD_VALUE": return -2;
            case "NOT_POSSIBLE": return -3;
            case "FULL": return -4;
            case "REFUSED": return -5;
            case "NONE": return -6;
            case "MIN": return Integer.MIN_VALUE;
            case "MAX": return Integer.MAX_VALUE;
            default: return Integer.parseInt(word);
        }
    }
}
