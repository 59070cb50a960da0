/** Promises 8 to 11: starting, loops, holding and aborting. */
public final class RunningTest {
    private static final String FLAT = SetUpTest.FLAT;

    private static void starting(Due due) {
        Script.played(due, "promise 8, the reasons", """
                start(1) = REFUSED
                total(11) = 2
                total(12) = 0
                setLines(100, 150, 100) = 5
                start(1) = REFUSED
                total(11) = 3
                setPoint(100, 500) = 1
                start(1) = REFUSED
                total(11) = 4
                addChannel(false, 1000, 200000) = 0
                start(1) = REFUSED
                total(11) = 4
                addChannel(true, 1000, 200000) = 1
                total(12) = 4
                # out of range: not even tried
                start(0) = BAD_VALUE
                start(1001) = BAD_VALUE
                start(MIN) = BAD_VALUE
                total(11) = 4
                total(0) = 0
                start(1000) = 5
                total(12) = 5
                total(11) = 0
                total(0) = 1
                total(1) = 0
                total(2) = 1000
                total(6) = 0
                total(7) = 1
                total(8) = 0
                driveAt(0) = 1000
                driveAt(1) = NONE
                notchedBy(0) = NONE
                start(5) = REFUSED
                total(11) = 1
                total(2) = 1000
                start(1001) = BAD_VALUE
                hold(true) = 0
                start(5) = REFUSED
                total(11) = 1
                abort() = 0
                start(5) = REFUSED
                step(50) = 10
                start(1) = 5
                total(11) = 0
                """);
    }

    private static void startingWithAll(Due due) {
        Script.played(due, "promise 8, six channels and a hundred lines", """
                setLines(5, 104, 10) = 100
                setPoint(100, 500) = 1
                """ + sixMonitors() + """
                start(100) = REFUSED
                total(11) = 4
                undo() = 4
                addChannel(true, 1000, 200000) = 5
                start(100) = 100
                step(50) = 50
                step(50) = 50
                total(0) = 5
                level(99, 5) = 500
                setMode(0, 0, 104, 1, 1000) = 2000
                start(100) = 100
                step(50) = 50
                step(50) = 50
                resonance(0, 0) = 99
                resonance(0, 1) = NONE
                resonance(5, 0) = NONE
                setLines(5, 104, 10) = 100
                averaged(99, 5) = NONE
                resonance(0, 0) = NONE
                """);
    }

    private static String sixMonitors() {
        StringBuilder rows = new StringBuilder();
        for (int channel = 0; channel < 6; channel++) {
            rows.append("addChannel(false, 1000, 200000) = ").append(channel).append('\n');
        }
        return rows.toString();
    }

    private static void startingAnew(Due due) {
        Script.played(due, "promise 8, what is forgotten", FLAT + """
                addChannel(false, 2000, 250) = 1
                addNotch(1, 110, 110, 200) = 0
                start(100) = 5
                step(1) = 1
                # the notch keeps the level at 200 as long as the gain is what was measured
                driveAt(1) = 100
                notchedBy(1) = 1
                setMode(1, 0, 110, 10, 100) = 2100
                step(1) = 1
                level(1, 1) = 210
                channel(1, 4) = 1
                channel(1, 5) = 1
                channel(1, 6) = 10
                step(1) = 1
                # 126 times 2045 is above the abort limit
                level(2, 1) = 257
                total(0) = 3
                total(9) = 1
                total(10) = 2
                channel(1, 4) = 0
                channel(1, 5) = 1
                channel(1, 7) = 1
                step(50) = 7
                total(0) = 4
                total(1) = 2
                total(2) = 0
                total(8) = 10
                start(200) = 5
                total(0) = 1
                total(1) = 0
                total(2) = 200
                total(7) = 1
                total(8) = 0
                total(9) = NONE
                total(10) = NONE
                level(0, 0) = NONE
                level(1, 1) = NONE
                driveAt(0) = 200
                driveAt(1) = NONE
                notchedBy(1) = NONE
                channel(1, 4) = 0
                channel(1, 5) = 0
                channel(1, 6) = 0
                channel(1, 7) = 0
                # the averaged gains are not forgotten
                averaged(1, 0) = 1000
                averaged(2, 1) = 2039
                averaged(3, 1) = NONE
                controlGain(2) = 1000
                """);
    }

    private static void stepping(Due due) {
        Script.played(due, "promise 9", FLAT + """
                step(1) = NOT_POSSIBLE
                step(0) = BAD_VALUE
                step(51) = BAD_VALUE
                step(MIN) = BAD_VALUE
                start(100) = 5
                step(0) = BAD_VALUE
                step(51) = BAD_VALUE
                total(8) = 0
                step(1) = 1
                total(8) = 1
                total(1) = 1
                step(2) = 2
                total(1) = 3
                # it is counted only what was done
                step(50) = 2
                total(0) = 5
                total(1) = 4
                total(2) = 0
                total(6) = 1
                total(7) = 1
                total(8) = 5
                step(1) = NOT_POSSIBLE
                step(51) = BAD_VALUE
                start(100) = 5
                hold(true) = 0
                step(50) = 50
                total(8) = 50
                """);
    }

    private static void levelsAndGains(Due due) {
        String rows = """
                setLines(100, 150, 100) = 5
                setPoint(100, 500) = 1
                addChannel(true, 1000, 200000) = 0
                addChannel(false, 5000, 200000) = 1
                addChannel(true, 2001, 200000) = 2
                set(0, %s) = 0
                start(7) = 5
                step(1) = 1
                level(0, 0) = 7
                level(0, 1) = 35
                level(0, 2) = 14
                averaged(0, 0) = 1000
                averaged(0, 1) = 5000
                averaged(0, 2) = 2000
                controlGain(0) = %s
                """;
        Script.played(due, "promise 9, average", rows.formatted("0", "1428"));
        Script.played(due, "promise 9, maximum", rows.formatted("1", "2000"));
        Script.played(due, "promise 9, minimum", rows.formatted("2", "1000"));
        Script.played(due, "promise 9, great numbers", """
                setLines(100, 100, 100) = 1
                setPoint(100, 50000) = 1
                addChannel(true, 1, 200000) = 0
                addChannel(false, 5000, 200000) = 1
                setMode(1, 0, 100, 500, 50000) = 55000
                setMode(1, 1, 100, 500, 50000) = 105000
                setMode(1, 2, 100, 500, 50000) = 155000
                start(1000) = 1
                hold(true) = 0
                step(1) = 1
                level(0, 0) = 1
                level(0, 1) = 155000
                averaged(0, 1) = 155000
                controlGain(0) = 1
                driveAt(0) = 1251
                step(1) = 1
                level(0, 1) = 193905
                # above 200000 it aborts
                step(1) = 1
                level(0, 1) = 242420
                total(9) = 1
                """);
    }

    private static void averaging(Due due) {
        Script.played(due, "promise 9, averaging", FLAT + """
                addChannel(false, 2000, 200000) = 1
                start(9) = 5
                hold(true) = 0
                step(1) = 1
                averaged(0, 1) = 2000
                # 1 is no averaging at all: the drive is 12, the level 24
                setMode(1, 0, 100, 1, 100) = 2100
                step(1) = 1
                level(0, 1) = 25
                averaged(0, 1) = 2083
                driveAt(0) = 16
                set(1, 4) = 1
                setMode(1, 0, 100, 1, 1000) = 3000
                step(1) = 1
                level(0, 1) = 48
                # (2083 * 3 + 3000) / 4
                averaged(0, 1) = 2312
                set(1, 8) = 4
                setMode(0, 0, 100, 1, 1000) = 2000
                step(1) = 1
                # the drive was 21: (1000 * 7 + 2000) / 8, and (2312 * 7 + 3000) / 8
                averaged(0, 0) = 1125
                controlGain(0) = 1125
                averaged(0, 1) = 2398
                """);
    }

    private static void drives(Due due) {
        Script.played(due, "promise 9, the rise", FLAT + """
                start(100) = 5
                step(4) = 4
                driveAt(0) = 100
                driveAt(1) = 126
                driveAt(2) = 158
                driveAt(3) = 198
                driveAt(4) = 248
                """);
        Script.played(due, "promise 9, a rise of 1 and of 100", FLAT + """
                set(3, 1) = 25
                start(100) = 5
                step(1) = 1
                driveAt(1) = 102
                set(3, 100) = 1
                step(1) = 1
                driveAt(2) = 205
                """);
        Script.played(due, "promise 9, the fall", FLAT + """
                setPoint(100, 10) = 1
                start(999) = 5
                step(3) = 3
                driveAt(1) = 500
                driveAt(2) = 250
                driveAt(3) = 125
                step(1) = 1
                driveAt(4) = 63
                """);
        Script.played(due, "promise 9, by what was measured and by the averaged gain", """
                setLines(100, 150, 100) = 5
                setPoint(110, 105) = 1
                setPoint(121, 200) = 2
                addChannel(true, 1500, 200000) = 0
                start(67) = 5
                step(1) = 1
                # 67 * 105 / 100
                level(0, 0) = 100
                driveAt(1) = 70
                step(50) = 4
                # a level of 105 with the drive 70
                controlGain(1) = 1500
                # it is known now what the gain of line 1 is: 105 * 1000 / 1500
                setMode(0, 0, 100, 1, 500) = 2000
                start(61) = 5
                step(1) = 1
                driveAt(1) = 70
                """);
        Script.played(due, "promise 9, a control level of 1 and a control gain of 1", """
                setLines(100, 150, 100) = 5
                setPoint(100, 1) = 1
                addChannel(true, 1, 200000) = 0
                start(1000) = 5
                step(1) = 1
                # 1000 * 1 / 1, not twice 1000
                driveAt(1) = 1000
                hold(true) = 1
                step(1) = 1
                driveAt(1) = 1000
                set(1, 8) = 1
                setMode(0, 0, 110, 1, 1) = 2
                step(1) = 1
                level(1, 0) = 2
                controlGain(1) = 1
                # 1 * 1000 / 1, not 1000 * 1 / 2
                driveAt(1) = 1000
                """);
        Script.played(due, "promise 9, without a control level by the maximum", """
                setLines(100, 150, 100) = 5
                setPoint(110, 105) = 1
                addChannel(true, 0, 200000) = 0
                set(0, 1) = 0
                start(5) = 5
                step(1) = 1
                controlGain(0) = 0
                driveAt(1) = 7
                """);
        Script.played(due, "promise 9, without a control level", """
                setLines(100, 150, 100) = 5
                setPoint(110, 105) = 1
                addChannel(true, 0, 200000) = 0
                set(3, 100) = 25
                start(5) = 5
                step(2) = 2
                controlGain(0) = 0
                driveAt(1) = 10
                driveAt(2) = 20
                set(3, 10) = 100
                step(1) = 1
                driveAt(3) = 23
                step(50) = 2
                # an averaged control gain of 0 is none
                set(3, 100) = 10
                start(5) = 5
                step(1) = 1
                driveAt(1) = 10
                """);
    }

    private static void edgesOfTheDrive(Due due) {
        Script.played(due, "promise 9, the greatest drive", """
                setLines(100, 150, 100) = 5
                setPoint(100, 50000) = 1
                addChannel(true, 1, 200000) = 0
                set(3, 100) = 25
                start(1000) = 5
                hold(true) = 0
                step(6) = 6
                driveAt(0) = 64063
                step(1) = 1
                driveAt(0) = 100000
                step(1) = 1
                driveAt(0) = 100000
                level(0, 0) = 100
                hold(false) = 0
                step(1) = 1
                driveAt(1) = 100000
                """);
        Script.played(due, "promise 9, a drive times a target beyond an int", """
                setLines(100, 150, 100) = 5
                setPoint(100, 50000) = 1
                addChannel(true, 1000, 200000) = 0
                set(3, 100) = 25
                start(1000) = 5
                hold(true) = 0
                step(6) = 6
                driveAt(0) = 50000
                hold(false) = 0
                step(1) = 1
                driveAt(1) = 50000
                """);
        Script.played(due, "promise 9, the least drive", """
                setLines(100, 150, 100) = 5
                setPoint(100, 1) = 1
                addChannel(true, 5000, 200000) = 0
                start(1) = 5
                step(1) = 1
                level(0, 0) = 5
                driveAt(1) = 1
                addNotch(0, 121, 121, 4) = 0
                step(1) = 1
                driveAt(2) = 1
                notchedBy(2) = 0
                step(1) = 1
                channel(0, 4) = 1
                channel(0, 6) = 1
                """);
    }

    private static void notching(Due due) {
        Script.played(due, "promise 9, notches", FLAT + """
                addChannel(false, 2000, 200000) = 1
                addChannel(false, 4000, 200000) = 2
                addChannel(false, 1000, 200000) = 3
                addChannel(false, 3000, 200000) = 4
                addChannel(false, 0, 200000) = 5
                addNotch(1, 105, 115, 200) = 0
                addNotch(1, 110, 110, 250) = 1
                addNotch(2, 110, 110, 300) = 0
                addNotch(3, 110, 110, 300) = 0
                addNotch(4, 110, 110, 225) = 0
                addNotch(5, 110, 110, 1) = 0
                start(100) = 5
                step(1) = 1
                # 126, then 200 * 1000 / 2000, then 300 * 1000 / 4000; 225 * 1000 / 3000 is no less
                driveAt(1) = 75
                notchedBy(1) = 2
                notchedBy(0) = NONE
                step(1) = 1
                channel(1, 4) = 0
                channel(2, 4) = 0
                level(1, 2) = 300
                notchedBy(2) = NONE
                driveAt(2) = 94
                """);
        Script.played(due, "promise 9, a notch with a gain of 1", """
                setLines(100, 150, 100) = 5
                setPoint(100, 50000) = 1
                addChannel(true, 1, 200000) = 0
                addNotch(0, 110, 110, 1) = 0
                start(1000) = 5
                step(1) = 1
                driveAt(1) = 1000
                notchedBy(1) = 0
                """);
        Script.played(due, "promise 9, a line that is notched no longer", FLAT + """
                addChannel(false, 500, 200000) = 1
                setMode(1, 0, 100, 1, 1500) = 2000
                addNotch(1, 100, 100, 200) = 0
                start(100) = 5
                hold(true) = 0
                step(1) = 1
                driveAt(0) = 100
                notchedBy(0) = 1
                setMode(1, 0, 100, 1, 0) = 500
                step(1) = 1
                driveAt(0) = 126
                notchedBy(0) = NONE
                # a notch lowers the drive further than it would fall at once
                addNotch(1, 100, 100, 5) = 1
                step(1) = 1
                driveAt(0) = 10
                notchedBy(0) = 1
                """);
        Script.played(due, "promise 9, by the averaged gain of the next line", FLAT + """
                addChannel(false, 1000, 200000) = 1
                addNotch(1, 110, 110, 100) = 0
                start(100) = 5
                step(1) = 1
                driveAt(1) = 100
                setMode(1, 0, 110, 1, 1000) = 2000
                step(50) = 4
                averaged(1, 1) = 2000
                channel(1, 5) = 1
                channel(1, 6) = 100
                start(200) = 5
                step(1) = 1
                # by what was measured at line 0 it would be 99
                averaged(0, 1) = 1005
                driveAt(1) = 50
                notchedBy(1) = 1
                """);
    }

    private static void excesses(Due due) {
        Script.played(due, "promise 9, above the notch limit", FLAT + """
                addNotch(0, 100, 105, 60) = 0
                start(100) = 5
                hold(true) = 0
                step(1) = 1
                channel(0, 4) = 1
                channel(0, 5) = 1
                channel(0, 6) = 40
                driveAt(0) = 60
                # 60 is not greater than 60
                step(1) = 1
                level(0, 0) = 60
                channel(0, 4) = 0
                channel(0, 5) = 1
                channel(0, 6) = 40
                setMode(0, 0, 100, 1, 200) = 1200
                step(1) = 1
                channel(0, 4) = 1
                channel(0, 6) = 40
                driveAt(0) = 50
                setMode(0, 0, 100, 1, 500) = 1500
                step(1) = 1
                channel(0, 4) = 2
                channel(0, 5) = 2
                channel(0, 6) = 40
                driveAt(0) = 40
                hold(false) = 0
                step(1) = 1
                channel(0, 4) = 0
                # there is no notch limit at the next line
                step(1) = 1
                channel(0, 4) = 0
                channel(0, 5) = 2
                """);
    }

    private static void aborting(Due due) {
        Script.played(due, "promise 9, the abort", """
                setLines(100, 150, 100) = 5
                setPoint(100, 500) = 1
                addChannel(true, 1000, 126) = 0
                addChannel(false, 1000, 150) = 1
                addChannel(false, 1000, 150) = 2
                set(2, 2) = 1
                start(100) = 5
                step(2) = 2
                # 126 is not greater than 126
                channel(0, 7) = 0
                driveAt(2) = 158
                step(1) = 1
                channel(0, 7) = 1
                channel(1, 7) = 1
                total(0) = 1
                total(1) = 3
                step(1) = 1
                level(3, 1) = 198
                total(0) = 3
                total(1) = 3
                total(2) = 198
                total(8) = 4
                total(9) = 0
                total(10) = 3
                channel(0, 7) = 2
                channel(1, 7) = 2
                channel(2, 7) = 2
                driveAt(4) = NONE
                step(1) = 1
                total(2) = 99
                total(0) = 3
                channel(0, 7) = 2
                set(4, 10) = 50
                step(1) = 1
                total(2) = 9
                step(50) = 1
                total(2) = 0
                total(0) = 4
                total(1) = 3
                total(6) = 0
                total(8) = 7
                total(9) = 0
                step(1) = NOT_POSSIBLE
                """);
        Script.played(due, "promise 9, by the second channel, with a pause", FLAT + """
                addChannel(false, 1000, 130) = 1
                set(2, 3) = 1
                set(3, 1) = 25
                start(131) = 5
                hold(true) = 0
                step(2) = 2
                channel(1, 7) = 2
                setMode(1, 0, 2000, 1, 1) = 1001
                undo() = 4
                abort() = 0
                undo() = 4
                setPoint(100, 1) = NOT_POSSIBLE
                addNotch(1, 100, 100, 100) = 0
                # the notch holds for the next line only: this loop is the third
                step(1) = 1
                total(0) = 3
                total(9) = 1
                undo() = 4
                set(2, 4) = 3
                step(1) = 1
                channel(1, 7) = 3
                step(1) = 1
                # the level was 100 in this one
                level(0, 1) = 100
                channel(1, 7) = 0
                total(0) = 2
                """);
    }

    private static void sweeping(Due due) {
        Script.played(due, "promise 9, sweeps", FLAT + """
                set(5, 3) = 1
                start(100) = 5
                step(4) = 4
                total(1) = 4
                total(7) = 1
                step(1) = 1
                total(1) = 3
                total(6) = 1
                total(7) = 0
                step(3) = 3
                total(1) = 0
                total(6) = 1
                step(1) = 1
                total(1) = 1
                total(6) = 2
                total(7) = 1
                step(50) = 4
                total(0) = 5
                total(1) = 4
                total(6) = 3
                total(7) = 1
                """);
        Script.played(due, "promise 9, more sweeps than there should be", FLAT + """
                set(5, 5) = 1
                start(100) = 5
                step(10) = 10
                total(6) = 2
                set(5, 1) = 5
                step(2) = 2
                total(0) = 1
                step(50) = 1
                total(0) = 5
                total(6) = 3
                """);
        Script.played(due, "promise 9, a single line", """
                setLines(100, 100, 100) = 1
                setPoint(100, 500) = 1
                addChannel(true, 1000, 200000) = 0
                set(5, 2) = 1
                start(100) = 1
                step(1) = 1
                total(1) = 0
                total(6) = 1
                total(7) = 0
                driveAt(0) = 126
                step(1) = 1
                total(0) = 5
                total(1) = 0
                total(7) = 0
                """);
    }

    private static void holding(Due due) {
        Script.played(due, "promise 10", FLAT + """
                hold(true) = NOT_POSSIBLE
                hold(false) = NOT_POSSIBLE
                start(100) = 5
                step(2) = 2
                hold(false) = NOT_POSSIBLE
                hold(true) = 2
                total(0) = 2
                total(12) = 5
                hold(true) = NOT_POSSIBLE
                step(1) = 1
                total(1) = 2
                driveAt(2) = 198
                step(9) = 9
                driveAt(2) = 500
                total(1) = 2
                total(8) = 12
                hold(false) = 2
                total(0) = 1
                step(1) = 1
                total(1) = 3
                undo() = 4
                total(0) = 1
                undo() = 3
                total(0) = 2
                abort() = 2
                hold(true) = NOT_POSSIBLE
                hold(false) = NOT_POSSIBLE
                step(50) = 9
                hold(true) = NOT_POSSIBLE
                hold(false) = NOT_POSSIBLE
                """);
    }

    private static void abortingByHand(Due due) {
        Script.played(due, "promise 11", FLAT + """
                abort() = NOT_POSSIBLE
                start(100) = 5
                step(3) = 3
                abort() = 3
                total(0) = 3
                total(1) = 3
                total(2) = 198
                total(8) = 3
                total(9) = NONE
                total(10) = 3
                total(12) = 5
                abort() = NOT_POSSIBLE
                step(50) = 8
                total(0) = 4
                total(8) = 11
                abort() = NOT_POSSIBLE
                start(100) = 5
                total(10) = NONE
                hold(true) = 0
                abort() = 0
                total(10) = 0
                undo() = 4
                total(0) = 2
                hold(false) = 0
                step(50) = 5
                total(0) = 5
                abort() = NOT_POSSIBLE
                """);
    }

    public static void main(String[] args) {
        Due due = new Due("RunningTest");
        starting(due);
        startingWithAll(due);
        startingAnew(due);
        stepping(due);
        levelsAndGains(due);
        averaging(due);
        drives(due);
        edgesOfTheDrive(due);
        notching(due);
        excesses(due);
        aborting(due);
        sweeping(due);
        holding(due);
        abortingByHand(due);
        due.end();
    }
}
