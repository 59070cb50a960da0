import java.util.LinkedHashMap;
import java.util.Map;

/**
 * Tests of single sentences of the document. Each is quoted to the letter and in the document's
 * order, below the heading under which it stands there, with scripts that a program that breaks the
 * sentence does not pass; a sentence that names no boundary case is quoted, too, but without a
 * script. So every word of the document is quoted just once, and none is left out.
 */
final class Edges {
    /** Lines (100, 110, 121, 133, 146), a flat profile and a control channel: ready to start. */
    static final String FLAT = SetUpTest.FLAT;

    /** Rows that follow FLAT: it rests behind a sweep. */
    static final String DONE = "start(100) = 5\nstep(50) = 5\n";

    /** Rows that follow FLAT: it rests behind an abort by hand, at line 0. */
    static final String ABORTED = "start(100) = 5\nabort() = 0\nstep(50) = 7\n";

    private final Due due;
    private final Map<String, String> document = new LinkedHashMap<>();
    private String heading = "";
    private String unquoted = "";
    private int sentences;

    Edges(Due due, String text) {
        this.due = due;
        for (String section : text.split("\n## ")) {
            int end = section.indexOf('\n');
            document.put(section.substring(0, end), section.substring(end));
        }
    }

    /** Opens a section, behind which the one before it must have been quoted to its end. */
    void section(String title) {
        endSection();
        due.holds("the document has no section " + title, document.containsKey(title));
        heading = title;
        unquoted = document.getOrDefault(title, "");
        document.remove(title);
    }

    /** Opens the section of a promise, behind the face of its call. */
    void promise(int number, String call, String face) {
        section("Promise " + number + ": " + call);
        quote("`" + face + "`");
    }

    /** A sentence and its scripts, each of which is played on a new object. */
    void sentence(String words, String... scripts) {
        quote(words);
        sentences++;
        due.holds(told(words) + " has no script", scripts.length > 0);
        for (String script : scripts) {
            Script.played(due, told(words), script);
        }
    }

    /** Words that name no boundary case. */
    void noEdge(String words) {
        quote(words);
    }

    /** A section that another test looks at. */
    void elsewhere(String title) {
        section(title);
        unquoted = "";
    }

    int end() {
        endSection();
        due.holds("sections are left out: " + document.keySet(), document.isEmpty());
        return sentences;
    }

    private String told(String words) {
        return heading + ", \"" + words + "\"";
    }

    private void quote(String words) {
        unquoted = withoutMarks(unquoted);
        int at = unquoted.indexOf(words);
        due.holds(told(words) + " does not stand there", at >= 0);
        due.holds(told(words) + " comes behind what is not quoted", at <= 0);
        unquoted = at >= 0 ? unquoted.substring(at + words.length()) : unquoted;
    }

    private void endSection() {
        unquoted = withoutMarks(unquoted);
        due.holds(heading + ": not quoted: " + unquoted, unquoted.isEmpty());
    }

    /** Passes over the marks ahead of the next word, or of the next name in backticks. */
    private static String withoutMarks(String text) {
        int at = 0;
        while (at < text.length() && !Character.isLetterOrDigit(text.charAt(at))
                && text.charAt(at) != '`') {
            at++;
        }
        return text.substring(at);
    }
}
