/** Promises 31 to 33: forecasts, which change nothing. */
public final class ForecastTest {
    private static final String FLAT = SetUpTest.FLAT;

    private static void loopsLeft(Due due) {
        Script.played(due, "promise 31", FLAT + """
                loopsLeft() = 0
                start(100) = 5
                loopsLeft() = 5
                step(2) = 2
                loopsLeft() = 3
                set(5, 3) = 1
                loopsLeft() = 11
                hold(true) = 2
                loopsLeft() = NONE
                abort() = 2
                # 158, 79, 39, 19, 9, 4, 2, 1, 0
                loopsLeft() = 8
                set(4, 10) = 50
                loopsLeft() = 3
                step(50) = 3
                loopsLeft() = 0
                total(0) = 4
                """);
        Script.played(due, "promise 31, 500 loops", """
                setLines(5, 104, 10) = 100
                setPoint(100, 500) = 1
                addChannel(true, 1000, 200000) = 0
                set(5, 6) = 1
                start(500) = 100
                step(50) = 50
                step(44) = 44
                # 100 + 5 * 99 = 595 in all
                loopsLeft() = NONE
                step(1) = 1
                loopsLeft() = 500
                step(1) = 1
                loopsLeft() = 499
                total(8) = 96
                """);
        Script.played(due, "promise 31, with an abort ahead", FLAT + """
                addChannel(false, 1000, 150) = 1
                start(100) = 5
                # three loops, and then 158 goes down to 0 in eight
                loopsLeft() = 11
                step(50) = 11
                total(0) = 4
                """);
    }

    private static void wouldAbort(Due due) {
        Script.played(due, "promise 32", FLAT + """
                addChannel(false, 1000, 150) = 1
                addChannel(false, 1000, 150) = 2
                wouldAbort(0) = BAD_VALUE
                wouldAbort(301) = BAD_VALUE
                wouldAbort(MIN) = BAD_VALUE
                wouldAbort(300) = NONE
                start(100) = 5
                wouldAbort(0) = BAD_VALUE
                wouldAbort(301) = BAD_VALUE
                wouldAbort(2) = NONE
                wouldAbort(3) = 1
                wouldAbort(300) = 1
                set(2, 2) = 1
                wouldAbort(3) = NONE
                wouldAbort(4) = 1
                hold(true) = 0
                wouldAbort(3) = NONE
                wouldAbort(4) = 1
                total(8) = 0
                hold(false) = 0
                step(4) = 4
                total(0) = 3
                total(9) = 1
                # it is aborting now
                wouldAbort(300) = NONE
                step(50) = 8
                wouldAbort(300) = NONE
                """);
        Script.played(due, "promise 32, without an abort", FLAT + """
                start(100) = 5
                wouldAbort(300) = NONE
                wouldAbort(1) = NONE
                abort() = 0
                wouldAbort(300) = NONE
                """);
        Script.played(due, "promise 32, the control channel", FLAT + """
                setMode(0, 0, 146, 1, 200000) = BAD_VALUE
                setMode(0, 0, 146, 1, 50000) = 51000
                setMode(0, 1, 146, 1, 50000) = 101000
                start(1000) = 5
                step(2) = 2
                wouldAbort(2) = NONE
                wouldAbort(3) = NONE
                setPoint(100, 50000) = NOT_POSSIBLE
                set(3, 100) = 25
                wouldAbort(300) = NONE
                """);
    }

    private static void highest(Due due) {
        Script.played(due, "promise 33", FLAT + """
                addChannel(false, 2000, 200000) = 1
                highest(0, 5) = NONE
                start(400) = 5
                highest(0, 1) = 400
                highest(1, 1) = 800
                highest(1, 2) = 1000
                highest(1, 300) = 1000
                highest(0, 0) = BAD_VALUE
                highest(0, 301) = BAD_VALUE
                highest(2, 0) = BAD_INDEX
                highest(2, 5) = BAD_INDEX
                highest(-1, 5) = BAD_INDEX
                highest(0, MAX) = BAD_VALUE
                setMode(1, 0, 121, 1, 1000) = 3000
                # 500 * 3000 / 1000 at line 2, and less behind it
                highest(1, 2) = 1004
                highest(1, 3) = 1500
                highest(1, 300) = 1500
                step(3) = 3
                highest(1, 1) = 1003
                highest(1, 300) = 1003
                total(8) = 3
                step(50) = 2
                highest(1, 300) = NONE
                """);
        Script.played(due, "promise 33, an abort", FLAT + """
                addChannel(false, 1000, 150) = 1
                start(100) = 5
                highest(0, 2) = 126
                highest(0, 3) = 158
                # no level is found while it is aborting
                highest(0, 300) = 158
                step(2) = 2
                highest(0, 300) = 158
                abort() = 2
                highest(0, 300) = NONE
                """);
        Script.played(due, "promise 33, a level of 0", """
                setLines(100, 150, 100) = 5
                setPoint(100, 500) = 1
                addChannel(true, 0, 200000) = 0
                start(100) = 5
                highest(0, 1) = 0
                """);
    }

    private static void nothingChanges(Due due) {
        Script.played(due, "promises 31 to 33 change nothing", FLAT + """
                addChannel(false, 1000, 300) = 1
                addNotch(0, 110, 110, 110) = 0
                start(100) = 5
                step(1) = 1
                loopsLeft() = 4
                wouldAbort(300) = NONE
                highest(1, 300) = 217
                total(0) = 1
                total(1) = 1
                total(2) = 110
                total(6) = 0
                total(8) = 1
                total(12) = 5
                level(1, 0) = NONE
                averaged(1, 0) = NONE
                controlGain(1) = NONE
                driveAt(2) = NONE
                notchedBy(1) = 0
                channel(0, 4) = 0
                channel(1, 7) = 0
                undo() = 4
                total(8) = 0
                """);
    }

    public static void main(String[] args) {
        Due due = new Due("ForecastTest");
        loopsLeft(due);
        wouldAbort(due);
        highest(due);
        nothingChanges(due);
        due.end();
    }
}
