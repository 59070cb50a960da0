/** Promises 19 to 30: looking. */
public final class LookingTest {
    private static final String FLAT = SetUpTest.FLAT;

    private static void frequencies(Due due) {
        Script.played(due, "promise 19", """
                frequency(0) = BAD_INDEX
                setLines(5, 104, 10) = 100
                frequency(0) = 5
                frequency(99) = 104
                frequency(100) = BAD_INDEX
                frequency(-1) = BAD_INDEX
                frequency(MAX) = BAD_INDEX
                frequency(MIN) = BAD_INDEX
                setLines(10, 20, 1000) = 2
                frequency(1) = 20
                frequency(2) = BAD_INDEX
                """);
    }

    private static void targets(Due due) {
        Script.played(due, "promise 20", """
                target(100) = NONE
                target(0) = BAD_VALUE
                target(2001) = BAD_VALUE
                setPoint(100, 50) = 1
                target(1) = 50
                target(100) = 50
                target(2000) = 50
                target(0) = BAD_VALUE
                target(2001) = BAD_VALUE
                target(MIN) = BAD_VALUE
                setPoint(103, 60) = 2
                target(99) = 50
                # 50 * 2 + 60 * 1 by 3, and 50 * 1 + 60 * 2 by 3
                target(101) = 53
                target(102) = 56
                target(103) = 60
                target(104) = 60
                setPoint(110, 10) = 3
                # 60 * 6 + 10 by 7
                target(104) = 52
                target(109) = 17
                target(110) = 10
                target(111) = 10
                setPoint(2000, 50000) = 4
                setPoint(1, 50000) = 5
                target(1999) = 49973
                target(2) = 49495
                """);
    }

    private static void gains(Due due) {
        Script.played(due, "promises 21 and 22, errors", """
                gain(0, 1) = BAD_INDEX
                limit(0, 1) = BAD_INDEX
                addChannel(true, 5, 5) = 0
                gain(0, 0) = BAD_VALUE
                gain(0, 2001) = BAD_VALUE
                gain(1, 0) = BAD_INDEX
                gain(-1, 5) = BAD_INDEX
                gain(MAX, 5) = BAD_INDEX
                gain(0, 1) = 5
                gain(0, 2000) = 5
                limit(0, 0) = BAD_VALUE
                limit(0, 2001) = BAD_VALUE
                limit(1, 0) = BAD_INDEX
                limit(-1, 5) = BAD_INDEX
                limit(0, 1) = NONE
                limit(0, 2000) = NONE
                """);
        Script.played(due, "promise 22", """
                addChannel(true, 5, 5) = 0
                addChannel(true, 5, 5) = 1
                addNotch(0, 100, 200, 70) = 0
                limit(0, 99) = NONE
                limit(0, 100) = 70
                limit(0, 200) = 70
                limit(0, 201) = NONE
                addNotch(0, 150, 160, 80) = 1
                limit(0, 155) = 70
                addNotch(0, 155, 155, 60) = 2
                limit(0, 154) = 70
                limit(0, 155) = 60
                limit(0, 156) = 70
                limit(1, 155) = NONE
                addNotch(0, 201, 2000, 90) = 3
                limit(0, 201) = 90
                limit(0, 2000) = 90
                """);
    }

    private static void properties(Due due) {
        Script.played(due, "promise 23", """
                channel(0, 0) = BAD_INDEX
                addChannel(true, 4, 5) = 0
                channel(0, 0) = 1
                channel(0, 1) = 4
                channel(0, 2) = 5
                channel(0, 3) = 0
                channel(0, 4) = 0
                channel(0, 5) = 0
                channel(0, 6) = 0
                channel(0, 7) = 0
                channel(0, -1) = BAD_VALUE
                channel(0, 8) = BAD_VALUE
                channel(1, 8) = BAD_INDEX
                channel(-1, 0) = BAD_INDEX
                addNotch(0, 1, 1, 1) = 0
                channel(0, 3) = 1
                """);
        Script.played(due, "promise 23, counts", FLAT + """
                addNotch(0, 100, 200, 120) = 0
                addNotch(0, 133, 133, 160) = 1
                addChannel(false, 1000, 120) = 1
                set(2, 5) = 1
                start(121) = 5
                step(1) = 1
                channel(0, 4) = 1
                channel(0, 5) = 1
                channel(0, 6) = 1
                channel(1, 7) = 1
                driveAt(1) = 120
                step(1) = 1
                channel(0, 4) = 0
                channel(0, 5) = 1
                channel(1, 7) = 0
                setMode(0, 0, 121, 500, 10) = 1010
                step(2) = 2
                # 121 and 120
                channel(0, 4) = 0
                channel(0, 5) = 1
                channel(0, 6) = 1
                """);
    }

    private static void lines(Due due) {
        Script.played(due, "promises 24 to 28", FLAT + """
                addChannel(false, 500, 200000) = 1
                level(0, 0) = NONE
                averaged(0, 0) = NONE
                controlGain(0) = NONE
                driveAt(0) = NONE
                notchedBy(0) = NONE
                set(5, 2) = 1
                start(100) = 5
                level(0, 0) = NONE
                driveAt(0) = 100
                driveAt(1) = NONE
                step(1) = 1
                level(0, 0) = 100
                level(0, 1) = 50
                level(1, 0) = NONE
                averaged(0, 0) = 1000
                averaged(0, 1) = 500
                averaged(1, 1) = NONE
                controlGain(0) = 1000
                controlGain(1) = NONE
                driveAt(1) = 126
                step(50) = 8
                # the second time at line 0 the drive is the one found last
                driveAt(0) = 500
                level(0, 0) = 500
                level(0, 1) = 250
                level(4, 1) = 124
                level(5, 0) = BAD_INDEX
                level(-1, 0) = BAD_INDEX
                level(0, 2) = BAD_INDEX
                level(0, -1) = BAD_INDEX
                level(4, 6) = BAD_INDEX
                averaged(5, 0) = BAD_INDEX
                averaged(-1, 0) = BAD_INDEX
                averaged(0, 2) = BAD_INDEX
                averaged(0, -1) = BAD_INDEX
                averaged(100, 0) = BAD_INDEX
                controlGain(5) = BAD_INDEX
                controlGain(-1) = BAD_INDEX
                controlGain(MAX) = BAD_INDEX
                driveAt(5) = BAD_INDEX
                driveAt(-1) = BAD_INDEX
                driveAt(100) = BAD_INDEX
                notchedBy(5) = BAD_INDEX
                notchedBy(-1) = BAD_INDEX
                notchedBy(MIN) = BAD_INDEX
                notchedBy(4) = NONE
                """);
        Script.played(due, "promise 28", FLAT + """
                addChannel(false, 500, 200000) = 1
                addNotch(0, 100, 121, 90) = 0
                addNotch(1, 121, 121, 40) = 0
                set(5, 2) = 1
                start(100) = 5
                # line 0 has not been the next line
                notchedBy(0) = NONE
                notchedBy(1) = NONE
                step(1) = 1
                notchedBy(0) = NONE
                notchedBy(1) = 0
                step(1) = 1
                notchedBy(2) = 1
                driveAt(2) = 80
                step(3) = 3
                notchedBy(3) = NONE
                step(3) = 3
                notchedBy(0) = 0
                driveAt(0) = 90
                """);
    }

    private static void resonances(Due due) {
        String peaks = """
                setLines(10, 18, 10) = 9
                setPoint(10, 500) = 1
                addChannel(true, 1000, 200000) = 0
                addChannel(false, 0, 200000) = 1
                setMode(1, 0, 12, 1, %d) = %d
                setMode(1, 1, 16, 1, %d) = %d
                start(1000) = 9
                """;
        Script.played(due, "promise 29", peaks.formatted(1000, 1000, 2000, 2058) + """
                resonance(1, 0) = NONE
                step(1) = 1
                # alone, it is greater than lines that have none
                resonance(1, 0) = 0
                step(1) = 1
                resonance(1, 0) = 1
                resonance(1, 1) = NONE
                step(50) = 7
                resonance(1, 0) = 6
                resonance(1, 1) = 2
                resonance(1, 2) = NONE
                resonance(1, MAX) = NONE
                resonance(1, -1) = BAD_VALUE
                resonance(1, MIN) = BAD_VALUE
                resonance(2, 0) = BAD_INDEX
                resonance(2, -1) = BAD_INDEX
                resonance(-1, 0) = BAD_INDEX
                # equal ones side by side are none
                resonance(0, 0) = NONE
                """);
        Script.played(due, "promise 29, equal ones", """
                setLines(10, 18, 10) = 9
                setPoint(10, 500) = 1
                addChannel(true, 1000, 200000) = 0
                addChannel(false, 0, 200000) = 1
                setMode(1, 0, 11, 1, 500) = 500
                setMode(1, 1, 17, 1, 500) = 513
                setMode(1, 2, 14, 1, 600) = 700
                start(1000) = 9
                step(50) = 9
                averaged(1, 1) = 572
                averaged(7, 1) = 572
                averaged(4, 1) = 700
                resonance(1, 0) = 4
                resonance(1, 1) = 1
                resonance(1, 2) = 7
                resonance(1, 3) = NONE
                """);
        Script.played(due, "promise 29, at the ends", """
                setLines(10, 14, 10) = 5
                setPoint(10, 500) = 1
                addChannel(true, 0, 200000) = 0
                setMode(0, 0, 10, 1, 400) = 400
                setMode(0, 1, 14, 1, 400) = 423
                addChannel(true, 0, 200000) = 1
                start(1000) = 5
                step(50) = 5
                averaged(0, 0) = 423
                averaged(4, 0) = 422
                resonance(0, 0) = 0
                resonance(0, 1) = 4
                resonance(0, 2) = NONE
                resonance(1, 0) = NONE
                setLines(10, 10, 10) = 1
                resonance(0, 0) = NONE
                start(1000) = 1
                step(1) = 1
                resonance(0, 0) = 0
                # a gain of 0 is greater than none
                averaged(0, 1) = 0
                resonance(1, 0) = 0
                resonance(1, 1) = NONE
                """);
    }

    private static void totals(Due due) {
        Script.played(due, "promise 30", """
                total(-1) = BAD_VALUE
                total(20) = BAD_VALUE
                total(MIN) = BAD_VALUE
                total(MAX) = BAD_VALUE
                setPoint(7, 9) = 1
                total(4) = 1
                addChannel(true, 1000, 300) = 0
                addChannel(false, 1000, 200) = 1
                total(5) = 2
                set(0, 2) = 0
                set(1, 3) = 1
                set(3, 26) = 25
                set(4, 51) = 50
                set(5, 4) = 1
                total(14) = 2
                total(15) = 3
                total(16) = 1
                total(17) = 26
                total(18) = 51
                total(19) = 4
                total(12) = 5
                append(33) = 1
                total(13) = 1
                setPoint(7, 150) = 1
                setLines(10, 12, 10) = 3
                total(3) = 3
                total(1) = NONE
                start(150) = 3
                total(0) = 1
                total(1) = 0
                total(2) = 150
                step(3) = 3
                total(1) = 1
                total(6) = 1
                total(7) = 0
                total(8) = 3
                total(9) = NONE
                total(10) = NONE
                setMode(1, 0, 11, 1, 400) = 1400
                step(1) = 1
                total(0) = 3
                total(9) = 1
                total(10) = 1
                total(2) = 150
                step(1) = 1
                total(2) = 76
                total(8) = 5
                step(50) = 7
                total(0) = 4
                total(1) = 1
                total(2) = 0
                total(8) = 12
                total(7) = 0
                """);
    }

    public static void main(String[] args) {
        Due due = new Due("LookingTest");
        frequencies(due);
        targets(due);
        gains(due);
        properties(due);
        lines(due);
        resonances(due);
        totals(due);
        due.end();
    }
}
