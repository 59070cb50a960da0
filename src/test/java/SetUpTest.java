/** Promises 1 to 7: a new object; lines, profile, channels, settings. */
public final class SetUpTest {
    /** Lines (100, 110, 121, 133, 146), a flat profile and a control channel: ready to start. */
    static final String FLAT = """
            setLines(100, 150, 100) = 5
            setPoint(100, 500) = 1
            addChannel(true, 1000, 200000) = 0
            """;

    private static final String NOTHING_IS_SET_UP_WHILE_RUNNING = """
            setLines(100, 150, 100) = NOT_POSSIBLE
            setLines(5, 2000, 10) = NOT_POSSIBLE
            setLines(4, 150, 100) = BAD_VALUE
            setPoint(100, 400) = NOT_POSSIBLE
            setPoint(0, 400) = BAD_VALUE
            addChannel(true, 1000, 1) = NOT_POSSIBLE
            addChannel(true, 5001, 1) = BAD_VALUE
            total(3) = 5
            total(4) = 1
            total(5) = 1
            """;

    private static void newObject(Due due) {
        Script.played(due, "promise 1", """
                total(0) = 0
                total(1) = NONE
                total(2) = 0
                total(3) = 0
                total(4) = 0
                total(5) = 0
                total(6) = 0
                total(7) = 1
                total(8) = 0
                total(9) = NONE
                total(10) = NONE
                total(11) = 0
                total(12) = 0
                total(13) = 0
                total(14) = 0
                total(15) = 1
                total(16) = 1
                total(17) = 25
                total(18) = 50
                total(19) = 1
                undo() = NOT_POSSIBLE
                restore(0) = NOT_POSSIBLE
                restore(1) = NOT_POSSIBLE
                faultPosition() = NONE
                clearText() = 0
                frequency(0) = BAD_INDEX
                driveAt(0) = BAD_INDEX
                target(100) = NONE
                channel(0, 0) = BAD_INDEX
                loopsLeft() = 0
                """);
        Script one = Script.played(due, "promise 1, one object", FLAT);
        Script.played(due, "promise 1, another object", "total(3) = 0\n total(5) = 0");
        one.play("total(3) = 5\n total(5) = 1");
    }

    private static void lines(Due due) {
        Script.played(due, "promise 2", """
                setLines(10, 40, 200) = 9
                frequency(0) = 10
                frequency(1) = 12
                frequency(2) = 14
                frequency(3) = 16
                frequency(4) = 19
                frequency(8) = 37
                frequency(9) = BAD_INDEX
                # at least 1 more
                setLines(5, 10, 10) = 6
                frequency(5) = 10
                # the highest frequency is a line itself
                setLines(1000, 2000, 1000) = 2
                frequency(1) = 2000
                setLines(1000, 1999, 1000) = 1
                setLines(5, 5, 1000) = 1
                setLines(5, 2000, 1000) = 9
                total(3) = 9
                total(12) = 5
                """);
        Script.played(due, "promise 2, errors", """
                setLines(5, 104, 10) = 100
                frequency(99) = 104
                setLines(5, 105, 10) = FULL
                setLines(5, 2000, 10) = FULL
                setLines(4, 100, 100) = BAD_VALUE
                setLines(1001, 1500, 100) = BAD_VALUE
                setLines(10, 9, 100) = BAD_VALUE
                setLines(10, 2001, 100) = BAD_VALUE
                setLines(10, 20, 9) = BAD_VALUE
                setLines(10, 20, 1001) = BAD_VALUE
                setLines(MIN, MAX, MAX) = BAD_VALUE
                setLines(5, 2000, MIN) = BAD_VALUE
                frequency(99) = 104
                total(12) = 1
                """);
        Script.played(due, "promise 2, while running", FLAT + "start(100) = 5\n"
                + NOTHING_IS_SET_UP_WHILE_RUNNING + "hold(true) = 0\n"
                + NOTHING_IS_SET_UP_WHILE_RUNNING + "abort() = 0\n"
                + NOTHING_IS_SET_UP_WHILE_RUNNING);
    }

    private static void linesForget(Due due) {
        Script.played(due, "promise 2, what is forgotten", """
                setLines(100, 150, 100) = 5
                setPoint(100, 500) = 1
                addChannel(true, 1000, 110) = 0
                addNotch(0, 100, 200, 50) = 0
                set(5, 2) = 1
                start(100) = 5
                start(100) = REFUSED
                hold(true) = 0
                step(1) = 1
                set(2, 2) = 1
                # notched to 50 by the notch, above the notch limit in the first loop alone
                channel(0, 4) = 1
                driveAt(0) = 50
                notchedBy(0) = 0
                addNotch(0, 100, 200, 40) = 1
                step(1) = 1
                channel(0, 4) = 2
                hold(false) = 0
                abort() = 0
                step(50) = 6
                total(0) = 4
                total(1) = 0
                total(8) = 8
                total(10) = 0
                level(0, 0) = 50
                averaged(0, 0) = 1000
                controlGain(0) = 1000
                setLines(100, 150, 100) = 5
                total(0) = 0
                total(1) = NONE
                total(2) = 0
                total(6) = 0
                total(7) = 1
                total(8) = 0
                total(9) = NONE
                total(10) = NONE
                # the reason is not one of these
                total(11) = 1
                level(0, 0) = NONE
                averaged(0, 0) = NONE
                controlGain(0) = NONE
                driveAt(0) = NONE
                notchedBy(0) = NONE
                channel(0, 3) = 2
                channel(0, 4) = 0
                channel(0, 5) = 0
                channel(0, 6) = 0
                channel(0, 7) = 0
                """);
        Script.played(due, "promise 2, after an abort and after sweeps", FLAT + """
                addChannel(false, 1000, 100) = 1
                set(5, 9) = 1
                set(2, 2) = 1
                start(99) = 5
                step(6) = 6
                total(0) = 3
                total(6) = 0
                step(50) = 5
                total(9) = 1
                total(10) = 2
                channel(1, 7) = 2
                setLines(100, 100, 100) = 1
                total(9) = NONE
                channel(1, 7) = 0
                start(99) = 1
                step(1) = 1
                total(6) = 1
                total(7) = 0
                step(1) = 1
                total(7) = 1
                step(1) = 1
                total(0) = 3
                step(50) = 8
                total(7) = 1
                total(6) = 2
                setLines(100, 100, 100) = 1
                total(6) = 0
                """);
        Script.played(due, "promise 2, the direction", FLAT + """
                set(5, 2) = 1
                start(99) = 5
                step(50) = 9
                total(0) = 5
                total(6) = 2
                total(7) = 0
                setLines(100, 150, 100) = 5
                total(7) = 1
                total(6) = 0
                """);
    }

    private static void points(Due due) {
        Script.played(due, "promise 3", """
                setPoint(20, 300) = 1
                setPoint(10, 100) = 2
                setPoint(15, 160) = 3
                target(20) = 300
                target(15) = 160
                target(10) = 100
                setPoint(15, 50000) = 3
                target(15) = 50000
                setPoint(1, 1) = 4
                setPoint(2000, 7) = 5
                total(12) = 5
                setPoint(0, 5) = BAD_VALUE
                setPoint(2001, 5) = BAD_VALUE
                setPoint(5, 0) = BAD_VALUE
                setPoint(5, 50001) = BAD_VALUE
                setPoint(MIN, MAX) = BAD_VALUE
                setPoint(100, 1) = 6
                setPoint(101, 1) = 7
                setPoint(99, 1) = 8
                setPoint(98, 1) = FULL
                setPoint(1999, 1) = FULL
                setPoint(2000, 9) = 8
                setPoint(1, 9) = 8
                target(2000) = 9
                target(1) = 9
                target(98) = 4
                total(4) = 8
                """);
        Script.played(due, "promise 3, above all points", """
                setPoint(1, 1) = 1
                setPoint(2, 1) = 2
                setPoint(3, 1) = 3
                setPoint(4, 1) = 4
                setPoint(5, 1) = 5
                setPoint(6, 1) = 6
                setPoint(7, 1) = 7
                setPoint(8, 1) = 8
                setPoint(9, 1) = FULL
                setPoint(2000, 1) = FULL
                setPoint(8, 2) = 8
                target(9) = 2
                undo() = 4
                undo() = 3
                undo() = 2
                # the point that was undone is not there any more
                target(8) = 1
                setPoint(7, 5) = 7
                target(8) = 5
                """);
        Script.played(due, "promise 3, in the states that rest", FLAT + """
                start(100) = 5
                step(50) = 5
                setPoint(100, 400) = 1
                start(100) = 5
                abort() = 0
                step(50) = 7
                setPoint(100, 300) = 1
                target(1) = 300
                undo() = 4
                target(1) = 400
                """);
    }

    private static void channels(Due due) {
        Script.played(due, "promise 4", """
                addChannel(true, -1, 1) = BAD_VALUE
                addChannel(true, 5001, 1) = BAD_VALUE
                addChannel(true, 0, 0) = BAD_VALUE
                addChannel(true, 0, 200001) = BAD_VALUE
                addChannel(true, MAX, MIN) = BAD_VALUE
                total(5) = 0
                addChannel(true, 0, 1) = 0
                addChannel(false, 5000, 200000) = 1
                addChannel(true, 1, 2) = 2
                addChannel(true, 1, 2) = 3
                addChannel(true, 1, 2) = 4
                addChannel(false, 7, 8) = 5
                addChannel(false, 7, 8) = FULL
                addChannel(false, 5001, 8) = BAD_VALUE
                total(5) = 6
                total(12) = 5
                channel(0, 0) = 1
                channel(0, 1) = 0
                channel(0, 2) = 1
                channel(1, 0) = 0
                channel(1, 1) = 5000
                channel(1, 2) = 200000
                channel(5, 0) = 0
                channel(5, 1) = 7
                channel(5, 2) = 8
                channel(5, 3) = 0
                channel(6, 0) = BAD_INDEX
                # the modes' peaks are 0 at first
                gain(1, 1) = 5000
                undo() = 4
                total(5) = 5
                # a channel in the place of one that was undone has nothing of it
                addChannel(true, 3, 4) = 5
                setMode(5, 0, 10, 5, 100) = 103
                addNotch(5, 1, 9, 8) = 0
                undo() = 4
                undo() = 3
                undo() = 2
                addChannel(false, 9, 9) = 5
                gain(5, 10) = 9
                limit(5, 5) = NONE
                channel(5, 3) = 0
                """);
        Script.played(due, "promise 4, in the place of a channel that is gone", """
                save(0) = 0
                addChannel(true, 3, 4) = 0
                setMode(0, 0, 10, 5, 100) = 103
                setMode(0, 2, 20, 5, 100) = 123
                addNotch(0, 1, 9, 8) = 0
                addNotch(0, 10, 20, 8) = 1
                restore(0) = 0
                total(5) = 0
                addChannel(false, 9, 9) = 0
                channel(0, 0) = 0
                channel(0, 3) = 0
                gain(0, 10) = 9
                gain(0, 20) = 9
                limit(0, 5) = NONE
                addNotch(0, 30, 30, 5) = 0
                limit(0, 10) = NONE
                """);
        Script.played(due, "promise 4, after a run", FLAT + """
                start(100) = 5
                step(50) = 5
                addChannel(true, 2000, 1) = 1
                level(0, 1) = NONE
                level(0, 0) = 100
                averaged(0, 1) = NONE
                channel(1, 7) = 0
                resonance(1, 0) = NONE
                """);
    }

    private static void modes(Due due) {
        Script.played(due, "promise 5", """
                setMode(0, 0, 1, 1, 1) = BAD_INDEX
                addChannel(false, 500, 5000) = 0
                setMode(0, 0, 20, 3, 9000) = 9500
                # 9000 * 9 / (9 + d * d)
                gain(0, 20) = 9500
                gain(0, 21) = 8600
                gain(0, 22) = 6730
                gain(0, 23) = 5000
                gain(0, 17) = 5000
                gain(0, 2000) = 500
                # each is rounded down by itself: 1 * 1 / 2 twice
                setMode(0, 1, 1999, 1, 1) = 501
                setMode(0, 2, 1999, 1, 1) = 502
                gain(0, 2000) = 500
                setMode(0, 1, 2000, 500, 50000) = 50500
                setMode(0, 2, 2000, 500, 50000) = 100500
                setMode(0, 0, 2000, 500, 50000) = 150500
                gain(0, 1500) = 75500
                gain(0, 1) = 9329
                setMode(0, 0, 1, 1, 0) = 6386
                total(12) = 5
                """);
        Script.played(due, "promise 5, errors", """
                addChannel(false, 500, 5000) = 0
                setMode(-1, 0, 1, 1, 1) = BAD_INDEX
                setMode(1, 0, 1, 1, 1) = BAD_INDEX
                setMode(0, -1, 1, 1, 1) = BAD_INDEX
                setMode(0, 3, 1, 1, 1) = BAD_INDEX
                setMode(0, 3, 0, 0, -1) = BAD_INDEX
                setMode(6, 0, 0, 1, 1) = BAD_INDEX
                setMode(0, 0, 0, 1, 1) = BAD_VALUE
                setMode(0, 0, 2001, 1, 1) = BAD_VALUE
                setMode(0, 0, 1, 0, 1) = BAD_VALUE
                setMode(0, 0, 1, 501, 1) = BAD_VALUE
                setMode(0, 0, 1, 1, -1) = BAD_VALUE
                setMode(0, 0, 1, 1, 50001) = BAD_VALUE
                gain(0, 1) = 500
                total(12) = 1
                """);
        Script.played(due, "promise 5, in any state", FLAT + """
                start(100) = 5
                setMode(0, 0, 100, 1, 10) = 1010
                hold(true) = 0
                setMode(0, 0, 100, 1, 20) = 1020
                step(1) = 1
                averaged(0, 0) = 1020
                abort() = 0
                setMode(0, 0, 100, 1, 30) = 1030
                undo() = 4
                gain(0, 100) = 1020
                """);
    }

    private static void notches(Due due) {
        Script.played(due, "promise 6", """
                addNotch(0, 1, 1, 1) = BAD_INDEX
                addChannel(true, 500, 5000) = 0
                addNotch(0, 0, 1, 1) = BAD_VALUE
                addNotch(0, 20, 19, 1) = BAD_VALUE
                addNotch(0, 20, 2001, 1) = BAD_VALUE
                addNotch(0, 2001, 2001, 1) = BAD_VALUE
                addNotch(0, 20, 20, 0) = BAD_VALUE
                addNotch(0, 20, 20, 200001) = BAD_VALUE
                addNotch(-1, 0, 0, 0) = BAD_INDEX
                addNotch(1, 1, 1, 1) = BAD_INDEX
                channel(0, 3) = 0
                addNotch(0, 1, 2000, 200000) = 0
                addNotch(0, 20, 20, 1) = 1
                addNotch(0, 2000, 2000, 5) = 2
                addNotch(0, 19, 30, 7) = 3
                addNotch(0, 1, 1, 1) = FULL
                addNotch(0, 1, 1, 0) = BAD_VALUE
                channel(0, 3) = 4
                limit(0, 1) = 200000
                limit(0, 19) = 7
                limit(0, 20) = 1
                limit(0, 2000) = 5
                total(12) = 5
                undo() = 4
                limit(0, 19) = 200000
                """);
        Script.played(due, "promise 6, in any state", FLAT + """
                start(100) = 5
                addNotch(0, 1, 1, 1) = 0
                hold(true) = 0
                addNotch(0, 1, 1, 1) = 1
                abort() = 0
                addNotch(0, 1, 1, 1) = 2
                """);
    }

    private static void settings(Due due) {
        Script.played(due, "promise 7", """
                set(-1, 1) = BAD_INDEX
                set(6, 1) = BAD_INDEX
                set(MAX, 1) = BAD_INDEX
                set(0, -1) = BAD_VALUE
                set(0, 3) = BAD_VALUE
                set(1, 0) = BAD_VALUE
                set(1, 9) = BAD_VALUE
                set(2, 0) = BAD_VALUE
                set(2, 6) = BAD_VALUE
                set(3, 0) = BAD_VALUE
                set(3, 101) = BAD_VALUE
                set(4, 9) = BAD_VALUE
                set(4, 91) = BAD_VALUE
                set(5, 0) = BAD_VALUE
                set(5, 10) = BAD_VALUE
                total(12) = 0
                set(0, 2) = 0
                set(0, 1) = 2
                set(0, 0) = 1
                set(1, 8) = 1
                set(1, 1) = 8
                set(2, 5) = 1
                set(2, 1) = 5
                set(3, 100) = 25
                set(3, 1) = 100
                set(4, 90) = 50
                set(4, 10) = 90
                set(5, 9) = 1
                set(5, 1) = 9
                total(12) = 5
                total(17) = 1
                total(18) = 10
                undo() = 4
                total(19) = 9
                """);
        Script.played(due, "promise 7, in any state", FLAT + """
                start(100) = 5
                set(1, 2) = 1
                hold(true) = 0
                set(1, 3) = 2
                abort() = 0
                set(1, 4) = 3
                step(50) = 7
                set(1, 5) = 4
                total(12) = 5
                """);
    }

    public static void main(String[] args) {
        Due due = new Due("SetUpTest");
        newObject(due);
        lines(due);
        linesForget(due);
        points(due);
        channels(due);
        modes(due);
        notches(due);
        settings(due);
        due.end();
    }
}
