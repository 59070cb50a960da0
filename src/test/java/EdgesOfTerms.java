/** Sentences of "What it is", and of "Terms" up to starting. */
final class EdgesOfTerms {
    private static final String FLAT = Edges.FLAT;
    private static final String DONE = Edges.DONE;
    private static final String ABORTED = Edges.ABORTED;

    private static final String EIGHT_POINTS = """
            setPoint(80, 8) = 1
            setPoint(10, 1) = 2
            setPoint(70, 7) = 3
            setPoint(20, 2) = 4
            setPoint(60, 6) = 5
            setPoint(30, 3) = 6
            setPoint(50, 5) = 7
            setPoint(40, 4) = 8
            """;

    private EdgesOfTerms() {
    }

    static void tell(Edges edges) {
        whatItIs(edges);
        edges.elsewhere("The public face");
        edges.section("Terms");
        numbers(edges);
        lines(edges);
        profile(edges);
        channels(edges);
        notches(edges);
        settings(edges);
        furtherSettings(edges);
        states(edges);
        refusals(edges);
        starting(edges);
    }

    private static void whatItIs(Edges edges) {
        edges.elsewhere("# ShakerSweep");
        edges.section("What it is");
        edges.noEdge("A controller for sine sweeps on a vibration shaker");
        // total(8) is the last call of the 512.
        edges.sentence("An object is used for at most 512 calls after it has been made; what later "
                + "calls answer is free", FLAT + """
                start(100) = 5
                hold(true) = 0
                506x step(1) = 1
                total(8) = 506
                """, FLAT + """
                start(100) = 5
                hold(true) = 0
                506x highest(0, 300) = 500
                loopsLeft() = NONE
                """, """
                511x set(0, 0) = 0
                undo() = 4
                """, """
                511x append(127) = BAD_VALUE
                append(126) = 1
                """);
    }

    private static void numbers(Edges edges) {
        edges.noEdge("It sweeps over lines of frequencies, keeps a profile of levels by correcting "
                + "its drive with gains that were measured and averaged, lowers the drive where "
                + "channels have notch limits, aborts with a ramp when a channel is above its "
                + "abort limit for too long, and can be held; the structure on the shaker is "
                + "described by channels with resonances. There are forecasts, acts from texts, "
                + "undo and slots");
        edges.noEdge("All numbers are whole. Frequencies are in hertz");
        String rows = """
                setLines(100, 150, 100) = 5
                setPoint(100, 500) = 1
                addChannel(true, %d, 200000) = 0
                start(%d) = 5
                step(1) = 1
                level(0, 0) = %d
                """;
        edges.sentence("Levels, drives and gains have no units; a gain of 1000 means that the level "
                + "is equal to the drive", rows.formatted(1000, 1, 1),
                rows.formatted(1000, 1000, 1000), rows.formatted(999, 1000, 999),
                rows.formatted(1001, 1000, 1001));
    }

    private static void lines(Edges edges) {
        edges.sentence("Lines. The lines are frequencies, numbered from 0", """
                setLines(100, 150, 100) = 5
                frequency(-1) = BAD_INDEX
                frequency(0) = 100
                frequency(1) = 110
                frequency(4) = 146
                frequency(5) = BAD_INDEX
                """);
        edges.sentence("They are set by a lowest frequency, a highest frequency and a rate: line 0 "
                + "is the lowest frequency", """
                setLines(5, 5, 10) = 1
                frequency(0) = 5
                setLines(1000, 2000, 1000) = 2
                frequency(0) = 1000
                """);
        // 16 * 200 / 1000 is 3.2; 999 * 999 / 1000 is 998.001.
        edges.sentence("and each further line is the line before it plus its product with the rate "
                + "divided by 1000, rounded down", """
                setLines(10, 40, 200) = 9
                frequency(1) = 12
                frequency(2) = 14
                frequency(3) = 16
                frequency(4) = 19
                frequency(5) = 22
                frequency(6) = 26
                frequency(7) = 31
                frequency(8) = 37
                setLines(999, 2000, 1000) = 2
                frequency(1) = 1998
                setLines(999, 2000, 999) = 2
                frequency(1) = 1997
                """);
        // A product of 0.05, of 0.99, of 1 and of 1.01 all go 1 further, one of 2 goes 2.
        edges.sentence("but at least 1 more", """
                setLines(5, 7, 10) = 3
                frequency(1) = 6
                frequency(2) = 7
                setLines(99, 102, 10) = 4
                frequency(1) = 100
                frequency(2) = 101
                frequency(3) = 102
                setLines(199, 202, 10) = 3
                frequency(1) = 200
                frequency(2) = 202
                """);
        edges.sentence("there are as many lines as are not above the highest frequency", """
                setLines(100, 109, 100) = 1
                setLines(100, 110, 100) = 2
                frequency(1) = 110
                setLines(100, 111, 100) = 2
                setLines(100, 120, 100) = 2
                setLines(100, 121, 100) = 3
                setLines(1000, 1999, 1000) = 1
                frequency(1) = BAD_INDEX
                setLines(1000, 2000, 1000) = 2
                total(3) = 2
                """);
        edges.sentence("At first there are no lines", """
                total(3) = 0
                frequency(0) = BAD_INDEX
                start(1) = REFUSED
                total(11) = 2
                """);
    }

    private static void profile(Edges edges) {
        edges.sentence("Profile. The profile has at most 8 points, each with a frequency and a "
                + "level", EIGHT_POINTS + """
                setPoint(90, 9) = FULL
                setPoint(5, 9) = FULL
                setPoint(45, 9) = FULL
                total(4) = 8
                target(10) = 1
                target(40) = 4
                target(80) = 8
                target(90) = 8
                """);
        edges.sentence("no two have the same frequency", """
                setPoint(50, 1) = 1
                setPoint(50, 2) = 1
                total(4) = 1
                target(50) = 2
                setPoint(51, 3) = 2
                setPoint(49, 4) = 3
                setPoint(50, 5) = 3
                target(49) = 4
                target(50) = 5
                target(51) = 3
                """);
        edges.sentence("The target at a frequency is the level of the point with this frequency, if "
                + "there is one", """
                setPoint(11, 900) = 1
                target(11) = 900
                setPoint(12, 3) = 2
                setPoint(10, 7) = 3
                target(10) = 7
                target(11) = 900
                target(12) = 3
                setPoint(1, 50000) = 4
                setPoint(2000, 1) = 5
                target(1) = 50000
                target(2000) = 1
                """);
        edges.sentence("below all points it is the level of the point with the lowest frequency", """
                setPoint(20, 300) = 1
                target(19) = 300
                target(1) = 300
                setPoint(10, 100) = 2
                target(9) = 100
                target(1) = 100
                setPoint(30, 200) = 3
                target(9) = 100
                setPoint(2, 7) = 4
                target(1) = 7
                """);
        edges.sentence("above all points that of the point with the highest one", """
                setPoint(20, 300) = 1
                target(21) = 300
                target(2000) = 300
                setPoint(30, 100) = 2
                target(31) = 100
                target(2000) = 100
                setPoint(10, 200) = 3
                target(31) = 100
                setPoint(1999, 7) = 4
                target(2000) = 7
                """, EIGHT_POINTS + """
                target(81) = 8
                target(2000) = 8
                """);
        // 160 / 3, 170 / 3; falling 370 / 7, 120 / 7; with the greatest numbers 99900001 / 1999.
        edges.sentence("between two neighbouring points, with the frequencies a and b and the levels "
                + "p and q, it is (p * (b - f) + q * (f - a)) / (b - a) at the frequency f, rounded "
                + "down", """
                setPoint(100, 50) = 1
                setPoint(110, 10) = 2
                setPoint(103, 60) = 3
                target(101) = 53
                target(102) = 56
                target(103) = 60
                target(104) = 52
                target(109) = 17
                target(110) = 10
                """, """
                setPoint(1, 50000) = 1
                setPoint(2000, 1) = 2
                target(2) = 49974
                target(1999) = 26
                setPoint(2000, 50000) = 2
                target(2) = 50000
                target(1000) = 50000
                target(1999) = 50000
                """);
    }

    private static void channels(Edges edges) {
        edges.sentence("Channels. There are at most 6, numbered from 0", """
                channel(0, 0) = BAD_INDEX
                addChannel(true, 10, 1) = 0
                addChannel(true, 11, 1) = 1
                addChannel(true, 12, 1) = 2
                addChannel(true, 13, 1) = 3
                addChannel(true, 14, 1) = 4
                channel(5, 1) = BAD_INDEX
                addChannel(true, 15, 1) = 5
                addChannel(true, 16, 1) = FULL
                total(5) = 6
                channel(-1, 1) = BAD_INDEX
                channel(0, 1) = 10
                channel(5, 1) = 15
                channel(6, 1) = BAD_INDEX
                """, """
                setPoint(100, 500) = 1
                addChannel(true, 100, 200000) = 0
                addChannel(true, 200, 200000) = 1
                addChannel(true, 300, 200000) = 2
                addChannel(true, 400, 200000) = 3
                addChannel(true, 500, 200000) = 4
                addChannel(true, 600, 200000) = 5
                setLines(100, 150, 100) = 5
                start(100) = 5
                step(50) = 5
                level(0, 0) = 10
                level(0, 5) = 60
                controlGain(0) = 350
                setLines(100, 150, 100) = 5
                averaged(0, 5) = NONE
                """);
        edges.sentence("A channel is a control channel or a monitor channel", """
                addChannel(true, 1, 1) = 0
                addChannel(false, 1, 1) = 1
                channel(0, 0) = 1
                channel(1, 0) = 0
                """);
        edges.sentence("It has a base gain, an abort limit, three modes, numbered from 0, and at most "
                + "4 notches, numbered from 0", """
                addChannel(true, 3, 4) = 0
                channel(0, 1) = 3
                channel(0, 2) = 4
                setMode(0, -1, 1, 1, 1) = BAD_INDEX
                setMode(0, 0, 10, 1, 100) = 103
                setMode(0, 1, 10, 1, 200) = 303
                setMode(0, 2, 10, 1, 300) = 603
                setMode(0, 3, 10, 1, 400) = BAD_INDEX
                gain(0, 10) = 603
                addNotch(0, 1, 9, 50) = 0
                addNotch(0, 1, 8, 40) = 1
                addNotch(0, 1, 7, 30) = 2
                addNotch(0, 1, 6, 20) = 3
                addNotch(0, 1, 5, 10) = FULL
                channel(0, 3) = 4
                limit(0, 5) = 20
                limit(0, 6) = 20
                limit(0, 7) = 30
                limit(0, 8) = 40
                limit(0, 9) = 50
                """);
        edges.sentence("A mode has a centre, a width and a peak; at first its peak is 0 (its centre "
                + "and its width are 1 then)", """
                addChannel(true, 7, 9) = 0
                gain(0, 1) = 7
                gain(0, 2) = 7
                gain(0, 2000) = 7
                setMode(0, 1, 1, 1, 5) = 12
                setMode(0, 1, 1, 1, 0) = 7
                """, """
                # not even in the place of a channel that had others
                save(0) = 0
                addChannel(true, 5000, 9) = 0
                setMode(0, 0, 1, 500, 50000) = 55000
                setMode(0, 2, 1, 500, 50000) = 105000
                restore(0) = 0
                addChannel(true, 8, 9) = 0
                gain(0, 1) = 8
                """);
        // Beside the centre, 1 * 1 / 2 is 0 for each of two modes; 50000 * 250000 is beyond an int.
        edges.sentence("The gain of a channel at a frequency f is its base gain plus, for each mode, "
                + "peak * width * width / (width * width + (f - centre) * (f - centre)), each of "
                + "these rounded down", """
                addChannel(true, 500, 1) = 0
                setMode(0, 0, 20, 1, 1) = 501
                setMode(0, 1, 20, 1, 1) = 502
                gain(0, 19) = 500
                gain(0, 21) = 500
                setMode(0, 2, 20, 3, 9000) = 9502
                gain(0, 17) = 5000
                gain(0, 19) = 8600
                gain(0, 21) = 8600
                gain(0, 22) = 6730
                gain(0, 2000) = 500
                """, """
                addChannel(true, 0, 1) = 0
                gain(0, 1) = 0
                setMode(0, 0, 2000, 500, 50000) = 50000
                setMode(0, 1, 2000, 500, 50000) = 100000
                setMode(0, 2, 2000, 500, 50000) = 150000
                gain(0, 1999) = 149997
                gain(0, 1500) = 75000
                gain(0, 1) = 8829
                """, """
                addChannel(true, 5000, 1) = 0
                setMode(0, 0, 1, 500, 50000) = 55000
                setMode(0, 1, 1, 500, 50000) = 105000
                setMode(0, 2, 1, 500, 50000) = 155000
                gain(0, 2000) = 13829
                """);
    }

    private static void notches(Edges edges) {
        edges.sentence("A notch has two frequencies, from and to, and a limit", """
                addChannel(true, 1, 1) = 0
                addNotch(0, 1, 2000, 200000) = 0
                limit(0, 1) = 200000
                limit(0, 2000) = 200000
                addNotch(0, 7, 7, 1) = 1
                limit(0, 6) = 200000
                limit(0, 7) = 1
                limit(0, 8) = 200000
                """);
        edges.sentence("The notch limit of a channel at a frequency is the lowest limit of its "
                + "notches with from <= frequency <= to, if there are any", """
                addChannel(true, 1, 1) = 0
                addChannel(true, 1, 1) = 1
                limit(0, 100) = NONE
                addNotch(0, 100, 200, 70) = 0
                limit(0, 99) = NONE
                limit(0, 100) = 70
                limit(0, 200) = 70
                limit(0, 201) = NONE
                limit(1, 100) = NONE
                # a higher limit behind a lower one, and a lower one behind higher ones
                addNotch(0, 150, 160, 80) = 1
                limit(0, 155) = 70
                addNotch(0, 155, 155, 60) = 2
                limit(0, 154) = 70
                limit(0, 155) = 60
                limit(0, 156) = 70
                # side by side
                addNotch(0, 201, 300, 90) = 3
                limit(0, 200) = 70
                limit(0, 201) = 90
                limit(0, 300) = 90
                limit(0, 301) = NONE
                """);
    }

    /** Levels of 1000 and 2001 of control channels, and of 5000 and 1 of monitor channels. */
    private static String strategy(String row, int controlLevel) {
        return """
                setLines(100, 150, 100) = 5
                setPoint(100, 500) = 1
                addChannel(false, 5000, 200000) = 0
                addChannel(true, 1000, 200000) = 1
                addChannel(true, 2001, 200000) = 2
                addChannel(false, 1, 200000) = 3
                """ + row + "\nstart(1000) = 5\nstep(1) = 1\ncontrolGain(0) = " + controlLevel;
    }

    private static void settings(Edges edges) {
        edges.sentence("Settings. 0 strategy (0 average, 1 maximum, 2 minimum; at first 0)", """
                total(14) = 0
                set(0, -1) = BAD_VALUE
                set(0, 3) = BAD_VALUE
                set(0, 2) = 0
                set(0, 1) = 2
                set(0, 0) = 1
                total(14) = 0
                """, strategy("", 1500), strategy("set(0, 0) = 0", 1500),
                strategy("set(0, 1) = 0", 2001), strategy("set(0, 2) = 0", 1000));
        edges.sentence("1 averaging (1 to 8; at first 1)", """
                total(15) = 1
                set(1, 0) = BAD_VALUE
                set(1, 9) = BAD_VALUE
                set(1, 8) = 1
                total(15) = 8
                set(1, 1) = 8
                total(15) = 1
                """, FLAT + """
                start(100) = 5
                hold(true) = 0
                step(1) = 1
                setMode(0, 0, 100, 1, 1000) = 2000
                step(1) = 1
                # at first it is no averaging at all
                averaged(0, 0) = 2000
                """);
        edges.sentence("2 patience (1 to 5; at first 1)", """
                total(16) = 1
                set(2, 0) = BAD_VALUE
                set(2, 6) = BAD_VALUE
                set(2, 5) = 1
                total(16) = 5
                set(2, 1) = 5
                total(16) = 1
                """, FLAT + """
                addChannel(false, 1000, 99) = 1
                start(100) = 5
                step(1) = 1
                total(0) = 3
                """, FLAT + """
                addChannel(false, 1000, 99) = 1
                set(2, 5) = 1
                start(100) = 5
                hold(true) = 0
                step(4) = 4
                total(0) = 2
                step(1) = 1
                total(0) = 3
                """);
    }

    private static void furtherSettings(Edges edges) {
        String rise = "start(100) = 5\nstep(1) = 1\ndriveAt(1) = ";
        edges.sentence("3 rise (1 to 100; at first 25)", """
                total(17) = 25
                set(3, 0) = BAD_VALUE
                set(3, 101) = BAD_VALUE
                set(3, 100) = 25
                total(17) = 100
                set(3, 1) = 100
                total(17) = 1
                """, FLAT + rise + "126", FLAT + "set(3, 1) = 25\n" + rise + "102",
                FLAT + "set(3, 100) = 25\n" + rise + "201");
        String ramp = "start(100) = 5\nabort() = 0\nstep(1) = 1\ntotal(2) = ";
        edges.sentence("4 ramp (10 to 90; at first 50)", """
                total(18) = 50
                set(4, 9) = BAD_VALUE
                set(4, 91) = BAD_VALUE
                set(4, 90) = 50
                total(18) = 90
                set(4, 10) = 90
                total(18) = 10
                """, FLAT + ramp + "50", FLAT + "set(4, 10) = 50\n" + ramp + "10",
                FLAT + "set(4, 90) = 50\n" + ramp + "90");
        edges.sentence("5 sweeps (1 to 9; at first 1)", """
                total(19) = 1
                set(5, 0) = BAD_VALUE
                set(5, 10) = BAD_VALUE
                set(5, 9) = 1
                total(19) = 9
                set(5, 1) = 9
                total(19) = 1
                """, FLAT + """
                start(100) = 5
                step(50) = 5
                total(0) = 5
                """, FLAT + """
                set(5, 9) = 1
                start(100) = 5
                # 5 + 8 * 4
                step(36) = 36
                total(0) = 1
                total(6) = 8
                step(50) = 1
                total(0) = 5
                total(6) = 9
                """);
    }

    private static void states(Edges edges) {
        edges.sentence("States. 0 idle (at first), 1 sweeping, 2 holding, 3 aborting, 4 aborted, "
                + "5 done", "total(0) = 0\n" + FLAT + """
                total(0) = 0
                start(100) = 5
                total(0) = 1
                hold(true) = 0
                total(0) = 2
                hold(false) = 0
                total(0) = 1
                abort() = 0
                total(0) = 3
                step(6) = 6
                total(0) = 3
                step(1) = 1
                total(0) = 4
                start(100) = 5
                step(4) = 4
                total(0) = 1
                step(1) = 1
                total(0) = 5
                setLines(100, 150, 100) = 5
                total(0) = 0
                """);
        String rests = """
                loopsLeft() = 0
                step(1) = NOT_POSSIBLE
                setPoint(1, 1) = 2
                start(1) = 5
                """;
        String doesNotRest = """
                setPoint(1, 1) = NOT_POSSIBLE
                start(1) = REFUSED
                total(11) = 1
                step(1) = 1
                """;
        edges.sentence("The controller rests in the states 0, 4 and 5", FLAT + rests,
                FLAT + ABORTED + "total(0) = 4\n" + rests, FLAT + DONE + "total(0) = 5\n" + rests,
                FLAT + "start(100) = 5\ntotal(0) = 1\n" + doesNotRest,
                FLAT + "start(100) = 5\nhold(true) = 0\ntotal(0) = 2\n" + doesNotRest,
                FLAT + "start(100) = 5\nabort() = 0\ntotal(0) = 3\n" + doesNotRest);
        edges.sentence("The drive is 0 when it rests", "total(2) = 0", FLAT + DONE + "total(2) = 0",
                FLAT + ABORTED + "total(2) = 0\nsetLines(100, 150, 100) = 5\ntotal(2) = 0",
                FLAT + DONE + "setLines(100, 150, 100) = 5\ntotal(2) = 0");
    }

    private static void refusals(Edges edges) {
        edges.sentence("Starting is refused for the first of these reasons that holds: 1 the "
                + "controller does not rest", FLAT + """
                start(100) = 5
                start(100) = REFUSED
                total(11) = 1
                hold(true) = 0
                start(100) = REFUSED
                total(11) = 1
                abort() = 0
                start(100) = REFUSED
                total(11) = 1
                step(6) = 6
                start(100) = REFUSED
                step(1) = 1
                start(100) = 5
                total(11) = 0
                """, FLAT + DONE + "start(100) = 5");
        edges.sentence("2 there are no lines", """
                start(1) = REFUSED
                total(11) = 2
                setPoint(100, 500) = 1
                start(1) = REFUSED
                total(11) = 2
                addChannel(true, 1000, 200000) = 0
                start(1) = REFUSED
                total(11) = 2
                setLines(5, 5, 10) = 1
                start(1) = 1
                """);
        edges.sentence("3 the profile has no points", """
                setLines(100, 150, 100) = 5
                start(1) = REFUSED
                total(11) = 3
                addChannel(true, 1000, 200000) = 0
                start(1) = REFUSED
                total(11) = 3
                setPoint(2000, 1) = 1
                start(1) = 5
                """);
        edges.sentence("4 there is no control channel", """
                setLines(100, 150, 100) = 5
                setPoint(100, 500) = 1
                start(1) = REFUSED
                total(11) = 4
                addChannel(false, 1000, 200000) = 0
                addChannel(false, 1000, 200000) = 1
                addChannel(false, 1000, 200000) = 2
                addChannel(false, 1000, 200000) = 3
                addChannel(false, 1000, 200000) = 4
                addChannel(false, 1000, 200000) = 5
                start(1) = REFUSED
                total(11) = 4
                undo() = 4
                addChannel(true, 1000, 200000) = 5
                start(1) = 5
                """);
    }

    /** Channel 1 was notched, was above its notch limit twice, by 22 at most, and made it abort. */
    private static final String MUCH_TO_FORGET = FLAT + """
            addChannel(false, 1000, 130) = 1
            addNotch(1, 100, 150, 110) = 0
            start(115) = 5
            step(1) = 1
            setMode(1, 0, 110, 500, 200) = 1200
            step(1) = 1
            level(0, 1) = 115
            level(1, 1) = 132
            driveAt(1) = 110
            notchedBy(1) = 1
            total(0) = 3
            total(9) = 1
            total(10) = 1
            channel(1, 4) = 2
            channel(1, 5) = 2
            channel(1, 6) = 22
            channel(1, 7) = 1
            step(50) = 7
            total(8) = 9
            start(200) = 5
            """;

    private static void starting(Edges edges) {
        edges.sentence("Otherwise the levels, the drives of the lines, what notched them, all counts "
                + "and excesses, and what is kept of an abort are forgotten", MUCH_TO_FORGET + """
                level(0, 0) = NONE
                level(0, 1) = NONE
                level(1, 1) = NONE
                driveAt(0) = 200
                driveAt(1) = NONE
                notchedBy(1) = NONE
                channel(1, 4) = 0
                channel(1, 5) = 0
                channel(1, 6) = 0
                channel(1, 7) = 0
                total(8) = 0
                total(9) = NONE
                total(10) = NONE
                """);
        edges.sentence("the averaged gains are not", MUCH_TO_FORGET + """
                averaged(0, 1) = 1000
                averaged(1, 0) = 1000
                averaged(1, 1) = 1200
                averaged(2, 1) = NONE
                controlGain(1) = 1000
                controlGain(2) = NONE
                """);
        String atTheBeginning = """
                total(0) = 1
                total(1) = 0
                total(2) = 1000
                total(6) = 0
                total(7) = 1
                step(1) = 1
                total(1) = 1
                level(0, 0) = 1000
                """;
        edges.sentence("the controller is sweeping upwards at line 0 with the drive that is told, and "
                + "no sweep is finished", FLAT + """
                set(5, 2) = 1
                start(100) = 5
                step(50) = 9
                total(1) = 0
                total(6) = 2
                total(7) = 0
                start(1000) = 5
                """ + atTheBeginning, FLAT + """
                set(5, 3) = 1
                start(100) = 5
                step(50) = 13
                total(1) = 4
                total(6) = 3
                total(7) = 1
                start(1000) = 5
                """ + atTheBeginning, FLAT + """
                set(5, 2) = 1
                start(100) = 5
                step(6) = 6
                hold(true) = 2
                abort() = 2
                step(50) = 9
                total(1) = 2
                total(7) = 0
                start(1000) = 5
                """ + atTheBeginning);
    }
}
