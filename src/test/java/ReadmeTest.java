import java.io.IOException;
import java.lang.reflect.Field;
import java.lang.reflect.Modifier;
import java.nio.file.Files;
import java.nio.file.Path;
import java.util.List;
import java.util.regex.Matcher;
import java.util.regex.Pattern;
import java.util.stream.Collectors;
import java.util.stream.Stream;

/** README.md: its example does what it says, and no call, constant or test is left out. */
public final class ReadmeTest {
    private static final Path TESTS = Path.of("src/test/java");
    private static final Path DOCUMENT = Path.of("../shared/DOC.md");

    /** The example stands here as it stands on the page; what it says is asked behind it. */
    private static void example(Due due) {
        // example
        ShakerSweep sweep = new ShakerSweep();
        sweep.setLines(10, 40, 200);          // 9 lines: 10, 12, 14, 16, 19, 22, 26, 31, 37 hertz
        sweep.setPoint(10, 100);              // the profile: a level of 100 at 10 hertz ..
        sweep.setPoint(20, 300);              // .. rising to 300 at 20 hertz
        sweep.addChannel(true, 800, 200000);  // channel 0 controls: base gain, abort limit
        sweep.addChannel(false, 500, 5000);   // channel 1 is only watched
        sweep.setMode(1, 0, 20, 3, 9000);     // it has a resonance at 20 hertz ..
        sweep.addNotch(1, 18, 25, 1500);      // .. and a level of at most 1500 around it
        sweep.start(50);                      // with a drive of 50
        int left = sweep.loopsLeft();         // 9 loops until it rests
        while (sweep.step(50) > 0) {          // does loops until it rests
        }
        int line = sweep.resonance(1, 0);     // 4: the line of 19 hertz
        // end
        int[] frequencies = {10, 12, 14, 16, 19, 22, 26, 31, 37};
        due.is("the number of lines", sweep.total(3), frequencies.length);
        for (int place = 0; place < frequencies.length; place++) {
            due.is("line " + place, sweep.frequency(place), frequencies[place]);
        }
        due.is("the target at 10", sweep.target(10), 100);
        due.is("the target at 20", sweep.target(20), 300);
        due.is("channel 0 controls", sweep.channel(0, 0), 1);
        due.is("its base gain", sweep.channel(0, 1), 800);
        due.is("its abort limit", sweep.channel(0, 2), 200000);
        due.is("channel 1 is watched", sweep.channel(1, 0), 0);
        due.is("the limit around its resonance", sweep.limit(1, 20), 1500);
        due.is("the drive at the start", sweep.driveAt(0), 50);
        due.is("the loops left", left, 9);
        due.is("the state behind them", sweep.total(0), 5);
        due.is("the resonance", line, 4);
        due.is("its frequency", sweep.frequency(line), 19);
    }

    private static List<String> stripped(Stream<String> rows) {
        return rows.map(String::strip).filter(row -> !row.isEmpty()).collect(Collectors.toList());
    }

    private static void exampleStandsHere(Due due, String page) throws IOException {
        int from = page.indexOf("```java\n");
        int to = page.indexOf("```", from + 1);
        due.holds("there is no example", from >= 0 && to > from);
        List<String> here = stripped(Files.lines(TESTS.resolve("ReadmeTest.java")));
        due.holds("the example is not the one of this test", stripped(
                page.substring(Math.max(0, from), Math.max(0, to)).lines().skip(1))
                .equals(here.subList(here.indexOf("// example") + 1, here.indexOf("// end"))));
    }

    /** Each call heads a row of a table, with the names that the document gives its arguments. */
    private static void calls(Due due, String page, String document) {
        Matcher face = Pattern.compile("(?m)^    public int (\\w+)\\(([^)]*)\\);").matcher(document);
        int calls = 0;
        while (face.find()) {
            calls++;
            String names = face.group(2).replaceAll("\\b(int|boolean) ", "");
            String row = "| `" + face.group(1) + "(" + names + ")` |";
            due.holds("not told: " + row, page.contains("\n" + row));
        }
        due.is("the calls of the document", calls, 32);
    }

    private static void constants(Due due, String page) throws ReflectiveOperationException {
        for (Field field : ShakerSweep.class.getDeclaredFields()) {
            if (Modifier.isPublic(field.getModifiers())) {
                String row = "| `" + field.getName() + "` | " + field.getInt(null) + " |";
                due.holds("not told: " + row, page.contains("\n" + row));
            }
        }
    }

    /** Each setting's row ends with its values and the one at first. */
    private static void settings(Due due, String page) {
        ShakerSweep atFirst = new ShakerSweep();
        Matcher row = Pattern.compile("(?m)^\\| ([0-9]) \\|.*\\| (\\d+) to (\\d+) \\| (\\d+) \\|$")
                .matcher(page);
        int settings = 0;
        while (row.find()) {
            int setting = Integer.parseInt(row.group(1));
            int least = Integer.parseInt(row.group(2));
            int greatest = Integer.parseInt(row.group(3));
            due.is("the settings in their order", setting, settings);
            due.is("at first, setting " + setting, atFirst.total(14 + setting),
                    Integer.parseInt(row.group(4)));
            ShakerSweep sweep = new ShakerSweep();
            due.is("below setting " + setting, sweep.set(setting, least - 1), ShakerSweep.BAD_VALUE);
            due.holds("least of setting " + setting, sweep.set(setting, least) >= 0);
            due.is("greatest of setting " + setting, sweep.set(setting, greatest), least);
            due.is("above setting " + setting, sweep.set(setting, greatest + 1),
                    ShakerSweep.BAD_VALUE);
            settings++;
        }
        due.is("the settings", settings, 6);
    }

    /** The text that is shown as an example of acts is carried out to its end. */
    private static void acts(Due due, String page) {
        Matcher shown = Pattern.compile("as in `([^`]*)`").matcher(page);
        due.holds("no text is shown", shown.find());
        ShakerSweep sweep = new ShakerSweep();
        sweep.setLines(10, 40, 200);
        sweep.setPoint(10, 100);
        sweep.addChannel(true, 800, 200000);
        shown.group(1).chars().forEach(sweep::append);
        due.is("the fault of " + shown.group(1), sweep.faultPosition(), ShakerSweep.NONE);
        due.is("the acts of " + shown.group(1), sweep.run(),
                shown.group(1).chars().filter(sign -> sign == ';').count());
    }

    private static void tests(Due due, String page) throws IOException {
        List<String> names = Files.list(TESTS).map(file -> file.getFileName().toString())
                .filter(name -> name.matches("(\\w+Test|EdgesOf\\w+)\\.java"))
                .map(name -> name.replace(".java", "")).collect(Collectors.toList());
        due.holds("only " + names.size() + " tests are seen", names.size() > 15);
        for (String name : names) {
            due.holds("not told: " + name, page.contains("\n| `" + name + "` | "));
        }
        due.holds("how to run the tests", page.contains("\n    .ci/run\n"));
        due.holds(".ci/run is no program", Files.isExecutable(Path.of(".ci/run")));
    }

    public static void main(String[] args) throws IOException, ReflectiveOperationException {
        Due due = new Due("ReadmeTest");
        String page = Files.readString(Path.of("README.md"));
        example(due);
        exampleStandsHere(due, page);
        calls(due, page, Files.readString(DOCUMENT));
        constants(due, page);
        settings(due, page);
        acts(due, page);
        tests(due, page);
        due.end();
    }
}
