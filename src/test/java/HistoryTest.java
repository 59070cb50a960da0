import java.util.List;

/** Promises 16 to 18: undo and the slots; and what is recorded. */
public final class HistoryTest {
    private static final String FLAT = SetUpTest.FLAT;

    private static void undoing(Due due) {
        Script.played(due, "promise 16", """
                undo() = NOT_POSSIBLE
                setLines(100, 150, 100) = 5
                setPoint(100, 500) = 1
                undo() = 1
                total(4) = 0
                total(3) = 5
                undo() = 0
                total(3) = 0
                undo() = NOT_POSSIBLE
                set(0, 1) = 0
                set(0, 2) = 1
                set(1, 3) = 1
                set(1, 4) = 3
                set(1, 5) = 4
                total(12) = 5
                set(1, 6) = 5
                total(12) = 5
                undo() = 4
                undo() = 3
                undo() = 2
                undo() = 1
                total(15) = 1
                total(14) = 2
                undo() = 0
                # the oldest was dropped
                total(14) = 1
                undo() = NOT_POSSIBLE
                total(14) = 1
                """);
        Script.played(due, "promise 16, more often than the history is long", FLAT
                + "30x set(0, 0) = 0\n total(12) = 5\n" + """
                set(0, 1) = 0
                undo() = 4
                set(0, 2) = 0
                total(12) = 5
                undo() = 4
                total(14) = 0
                undo() = 3
                undo() = 2
                undo() = 1
                undo() = 0
                total(3) = 5
                undo() = NOT_POSSIBLE
                """);
    }

    private static void eachIsTakenBack(Due due) {
        Script.played(due, "promise 16, each call", FLAT + """
                start(100) = 5
                undo() = 3
                total(0) = 0
                total(5) = 1
                driveAt(0) = NONE
                start(100) = 5
                step(2) = 2
                undo() = 4
                total(8) = 0
                total(0) = 1
                step(2) = 2
                hold(true) = 2
                undo() = 4
                total(0) = 1
                total(8) = 2
                hold(true) = 2
                hold(false) = 2
                undo() = 4
                total(0) = 2
                abort() = 2
                undo() = 4
                total(0) = 2
                total(10) = NONE
                set(5, 4) = 1
                undo() = 4
                total(19) = 1
                addNotch(0, 100, 150, 9) = 0
                undo() = 4
                channel(0, 3) = 0
                limit(0, 100) = NONE
                setMode(0, 2, 100, 9, 9) = 1009
                undo() = 4
                gain(0, 100) = 1000
                """);
        Script.played(due, "promise 16, lines and profile", FLAT + """
                setLines(20, 60, 300) = 5
                setPoint(100, 7) = 1
                setPoint(50, 8) = 2
                undo() = 4
                target(50) = 7
                undo() = 3
                target(50) = 500
                frequency(0) = 20
                undo() = 2
                frequency(0) = 100
                frequency(4) = 146
                """);
        Script.played(due, "promise 16, a call that reports an error behind five that do not", """
                set(1, 2) = 1
                set(1, 3) = 2
                set(1, 4) = 3
                set(1, 5) = 4
                set(1, 6) = 5
                set(1, 0) = BAD_VALUE
                step(1) = NOT_POSSIBLE
                start(1) = REFUSED
                undo() = 4
                undo() = 3
                undo() = 2
                undo() = 1
                total(15) = 2
                undo() = 0
                total(15) = 1
                """);
    }

    /** A state that holds: downwards, in the second sweep, above its limits and notched. */
    static final String HOLDING = """
            setLines(100, 150, 100) = 5
            setPoint(100, 500) = 1
            setPoint(130, 400) = 2
            addChannel(true, 1000, 200000) = 0
            addChannel(false, 1500, 160) = 1
            addChannel(false, 300, 200000) = 2
            setMode(1, 0, 133, 20, 700) = 2200
            setMode(1, 2, 100, 5, 90) = 1778
            addNotch(1, 90, 125, 260) = 0
            addNotch(1, 120, 150, 110) = 1
            addNotch(2, 1, 2000, 30) = 0
            set(0, 1) = 0
            set(1, 3) = 1
            set(2, 5) = 1
            set(3, 40) = 25
            set(4, 60) = 50
            set(5, 4) = 1
            start(70) = 5
            step(6) = 6
            hold(true) = 2
            addNotch(1, 121, 121, 90) = 2
            start(70) = REFUSED
            step(1) = 1
            """;

    /** A state that was aborted by a channel. */
    static final String ABORTED = """
            addChannel(false, 1000, 130) = 0
            addChannel(false, 1000, 120) = 1
            addChannel(true, 1200, 200000) = 2
            addNotch(0, 1, 2000, 150) = 0
            addNotch(1, 60, 70, 55) = 0
            setPoint(7, 90) = 1
            setPoint(50, 900) = 2
            setPoint(70, 300) = 3
            setLines(20, 50, 200) = 6
            setMode(2, 1, 41, 3, 1000) = 2200
            set(2, 2) = 1
            start(160) = 6
            step(40) = 10
            """;

    private static void wholeStates(Due due) {
        Script script = Script.played(due, "promises 16 to 18, whole states", "save(0) = 0");
        List<Integer> empty = Seen.ofState(script.object());
        List<Integer> holding = Seen.ofState(script.play(HOLDING + "save(1) = 2").object());
        List<Integer> aborted = Seen.ofState(script.play("restore(0) = 0\n" + ABORTED
                + "save(0) = 4").object());
        script.play("restore(1) = 2");
        due.holds("a holding state is restored", Seen.ofState(script.object()).equals(holding));
        script.play("restore(0) = 4");
        due.holds("an aborted state is restored", Seen.ofState(script.object()).equals(aborted));
        script.play("undo() = 4");
        due.holds("a holding state comes back", Seen.ofState(script.object()).equals(holding));
        script.play("undo() = 3");
        due.holds("an aborted state comes back", Seen.ofState(script.object()).equals(aborted));
        Script straight = Script.played(due, "promise 18, a run that was not left", HOLDING);
        String goingOn = "hold(false) = 2\n step(3) = 3";
        due.holds("it goes on as if it had not been left",
                Seen.ofState(script.play("restore(1) = 2\n" + goingOn).object())
                        .equals(Seen.ofState(straight.play(goingOn).object())));
        due.holds("the first state is another", !empty.equals(holding) && !empty.equals(aborted));
    }

    private static void everythingComesBack(Due due) {
        Script.played(due, "promise 16, a run", FLAT + """
                addChannel(false, 2000, 250) = 1
                setMode(1, 0, 100, 50, 100) = 2100
                addNotch(1, 100, 200, 200) = 0
                set(5, 2) = 1
                start(100) = 5
                step(5) = 5
                save(0) = 1
                total(1) = 3
                total(2) = 96
                total(7) = 0
                total(6) = 1
                step(50) = 4
                total(0) = 5
                setLines(5, 5, 10) = 1
                setPoint(7, 7) = 2
                addChannel(true, 7, 7) = 2
                undo() = 4
                undo() = 3
                undo() = 2
                total(0) = 5
                undo() = 1
                total(0) = 1
                total(1) = 3
                total(2) = 96
                total(3) = 5
                total(4) = 1
                total(5) = 2
                total(6) = 1
                total(7) = 0
                total(8) = 5
                frequency(4) = 146
                target(1) = 500
                limit(1, 100) = 200
                gain(1, 100) = 2100
                channel(1, 2) = 250
                channel(1, 6) = 10
                channel(1, 5) = 1
                # 200 * 1000 by 2063 and by 2094
                driveAt(3) = 96
                driveAt(2) = 95
                notchedBy(3) = 1
                notchedBy(1) = 1
                level(0, 0) = 100
                averaged(0, 1) = 2100
                controlGain(4) = 1000
                loopsLeft() = 4
                """);
    }

    private static void whatIsRecorded(Due due) {
        Script.played(due, "promises 2 to 11, what is recorded", """
                setLines(100, 150, 100) = 5
                total(12) = 1
                undo() = 0
                setPoint(100, 500) = 1
                total(12) = 1
                undo() = 0
                addChannel(true, 1000, 200000) = 0
                total(12) = 1
                setMode(0, 0, 1, 1, 0) = 1000
                total(12) = 2
                addNotch(0, 1, 1, 1) = 0
                total(12) = 3
                set(0, 0) = 0
                total(12) = 4
                undo() = 3
                undo() = 2
                undo() = 1
                undo() = 0
                setLines(100, 150, 100) = 5
                setPoint(100, 500) = 1
                addChannel(true, 1000, 200000) = 0
                save(0) = 0
                undo() = 2
                undo() = 1
                undo() = 0
                restore(0) = 0
                total(12) = 1
                start(100) = 5
                total(12) = 2
                step(1) = 1
                total(12) = 3
                hold(true) = 1
                total(12) = 4
                hold(false) = 1
                total(12) = 5
                undo() = 4
                undo() = 3
                abort() = 1
                total(12) = 4
                """);
        Script.played(due, "promises 12 to 33, what is not recorded", FLAT + """
                append(104) = 1
                append(59) = 2
                faultPosition() = NONE
                save(0) = 0
                frequency(0) = 100
                target(1) = 500
                gain(0, 1) = 1000
                limit(0, 1) = NONE
                channel(0, 0) = 1
                level(0, 0) = NONE
                averaged(0, 0) = NONE
                controlGain(0) = NONE
                driveAt(0) = NONE
                notchedBy(0) = NONE
                resonance(0, 0) = NONE
                total(0) = 0
                loopsLeft() = 0
                wouldAbort(1) = NONE
                highest(0, 1) = NONE
                clearText() = 2
                total(12) = 3
                undo() = 2
                total(5) = 0
                """);
        Script.played(due, "errors record nothing", FLAT + """
                setLines(4, 150, 100) = BAD_VALUE
                setPoint(0, 0) = BAD_VALUE
                addChannel(true, 1000, 0) = BAD_VALUE
                setMode(1, 0, 1, 1, 0) = BAD_INDEX
                setMode(0, 0, 0, 1, 0) = BAD_VALUE
                addNotch(1, 1, 1, 1) = BAD_INDEX
                addNotch(0, 0, 1, 1) = BAD_VALUE
                set(6, 0) = BAD_INDEX
                set(0, 9) = BAD_VALUE
                start(0) = BAD_VALUE
                step(1) = NOT_POSSIBLE
                hold(true) = NOT_POSSIBLE
                abort() = NOT_POSSIBLE
                restore(0) = NOT_POSSIBLE
                restore(2) = BAD_INDEX
                append(104) = 1
                run() = NOT_POSSIBLE
                total(12) = 3
                total(11) = 0
                start(1) = 5
                start(1) = REFUSED
                total(12) = 4
                total(11) = 1
                # the reason belongs to the state
                undo() = 3
                total(11) = 0
                """);
    }

    private static void slots(Due due) {
        Script.played(due, "promises 17 and 18", FLAT + """
                save(-1) = BAD_INDEX
                save(2) = BAD_INDEX
                restore(-1) = BAD_INDEX
                restore(2) = BAD_INDEX
                restore(MAX) = BAD_INDEX
                restore(MIN) = BAD_INDEX
                restore(0) = NOT_POSSIBLE
                save(0) = 0
                restore(1) = NOT_POSSIBLE
                total(12) = 3
                start(100) = 5
                step(2) = 2
                hold(true) = 2
                save(1) = 2
                # a copy: what comes then does not reach it
                setMode(0, 0, 121, 9, 100) = 1100
                set(1, 8) = 1
                step(3) = 3
                restore(1) = 2
                total(12) = 5
                total(8) = 2
                total(1) = 2
                total(15) = 1
                gain(0, 121) = 1000
                level(2, 0) = NONE
                driveAt(2) = 158
                # again: neither did what came after the restoring
                step(1) = 1
                level(2, 0) = 158
                restore(1) = 2
                level(2, 0) = NONE
                undo() = 4
                level(2, 0) = 158
                restore(0) = 0
                total(0) = 0
                total(8) = 0
                total(1) = NONE
                total(12) = 5
                undo() = 4
                level(2, 0) = 158
                # in place of what it holds
                save(0) = 2
                hold(false) = 2
                step(50) = 3
                save(1) = 5
                restore(0) = 2
                restore(1) = 5
                total(0) = 5
                # the slots do not belong to the state
                undo() = 4
                undo() = 3
                undo() = 2
                restore(1) = 5
                abort() = NOT_POSSIBLE
                restore(0) = 2
                abort() = 2
                save(0) = 3
                step(50) = 8
                save(1) = 4
                restore(0) = 3
                restore(1) = 4
                total(10) = 2
                """);
        Script.played(due, "promise 18, what does not belong to the state", FLAT + """
                append(104) = 1
                save(0) = 0
                append(59) = 2
                start(1) = 5
                start(1) = REFUSED
                total(11) = 1
                restore(0) = 0
                total(11) = 0
                total(13) = 2
                total(12) = 5
                clearText() = 2
                undo() = 4
                total(11) = 1
                total(13) = 0
                """);
    }

    public static void main(String[] args) {
        Due due = new Due("HistoryTest");
        undoing(due);
        eachIsTakenBack(due);
        wholeStates(due);
        everythingComesBack(due);
        whatIsRecorded(due);
        slots(due);
        due.end();
    }
}
