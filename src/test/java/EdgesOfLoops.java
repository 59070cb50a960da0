/** Sentences of "Terms": what a loop does, and the reason. */
final class EdgesOfLoops {
    private static final String FLAT = Edges.FLAT;

    /** Holds a line of 100 hertz with the greatest drive; the control channel has a gain of 1. */
    private static final String GREATEST_DRIVE = """
            setLines(100, 150, 100) = 5
            setPoint(100, 50000) = 1
            addChannel(true, 1, 200000) = 0
            addChannel(false, 0, 200000) = 1
            set(3, 100) = 25
            start(1000) = 5
            hold(true) = 0
            step(6) = 6
            total(2) = 64063
            step(1) = 1
            total(2) = 100000
            """;

    /** A control channel without a gain, and a target of 110. */
    private static final String NO_GAIN = """
            setLines(100, 150, 100) = 5
            setPoint(100, 110) = 1
            addChannel(true, 0, 200000) = 0
            """;

    /** Levels of a channel of 5 that the least drive cannot lower to the notch limit of 4. */
    private static final String ABOVE_ITS_NOTCH = """
            setLines(100, 150, 100) = 5
            setPoint(100, 1) = 1
            addChannel(true, 5000, 200000) = 0
            addChannel(false, 5000, 200000) = 1
            addNotch(0, 100, 100, 4) = 0
            start(1) = 5
            hold(true) = 0
            """;

    private EdgesOfLoops() {
    }

    static void tell(Edges edges) {
        order(edges);
        levels(edges);
        measuredGains(edges);
        averagedGains(edges);
        excesses(edges);
        tooLong(edges);
        aborts(edges);
        nextLine(edges);
        turning(edges);
        driveByTheAveragedGain(edges);
        driveWithoutAnAveragedGain(edges);
        fallAndRise(edges);
        notching(edges);
        edgesOfNotching(edges);
        lastOfTheDrive(edges);
        aborting(edges);
        reason(edges);
    }

    private static void order(Edges edges) {
        // By the gain before this loop the drive would be 313 + 78 + 1, and not 500 / 2.
        edges.sentence("A loop in the states sweeping and holding does the following, in this order",
                FLAT + """
                start(250) = 5
                hold(true) = 0
                step(1) = 1
                driveAt(0) = 313
                setMode(0, 0, 100, 1, 1000) = 2000
                step(1) = 1
                controlGain(0) = 2000
                driveAt(0) = 250
                """, FLAT + """
                addChannel(false, 1000, 247) = 1
                start(100) = 5
                step(50) = 13
                # the last line: it aborts there and is not done
                total(0) = 4
                total(1) = 4
                total(6) = 0
                """);
    }

    private static void levels(Edges edges) {
        edges.sentence("1. The level of each channel is its gain at the frequency of the line times "
                + "the drive, divided by 1000, rounded down", """
                setLines(100, 150, 100) = 5
                setPoint(100, 500) = 1
                addChannel(true, 1999, 200000) = 0
                addChannel(false, 999, 200000) = 1
                addChannel(false, 0, 200000) = 2
                start(1) = 5
                step(1) = 1
                level(0, 0) = 1
                level(0, 1) = 0
                level(0, 2) = 0
                """, FLAT + """
                setMode(0, 0, 110, 1, 1000) = 2000
                gain(0, 100) = 1009
                start(100) = 5
                step(2) = 2
                level(0, 0) = 100
                driveAt(1) = 126
                level(1, 0) = 252
                """, GREATEST_DRIVE + """
                setMode(1, 0, 100, 500, 50000) = 50000
                setMode(1, 1, 100, 500, 50000) = 100000
                setMode(1, 2, 100, 500, 50000) = 150000
                step(1) = 1
                # 150000 * 100000 is beyond an int
                level(0, 1) = 15000000
                """);
        String rows = """
                setLines(100, 150, 100) = 5
                setPoint(100, 500) = 1
                addChannel(false, 5000, 200000) = 0
                addChannel(true, 1000, 200000) = 1
                addChannel(true, 1003, 200000) = 2
                addChannel(true, 1005, 200000) = 3
                addChannel(false, 1, 200000) = 4
                set(0, %d) = 0
                start(1000) = 5
                step(1) = 1
                controlGain(0) = %d
                """;
        String single = FLAT + """
                addChannel(false, 5000, 200000) = 1
                set(0, %d) = 0
                start(1000) = 5
                step(1) = 1
                controlGain(0) = 1000
                """;
        String zero = NO_GAIN + """
                addChannel(false, 5000, 200000) = 1
                set(0, %d) = 0
                start(1000) = 5
                step(1) = 1
                controlGain(0) = 0
                """;
        // The average is 3008 / 3; monitor channels have the greatest level and the least.
        edges.sentence("The control level is, by the strategy, the average (rounded down), the "
                + "maximum or the minimum of the levels of all control channels",
                rows.formatted(0, 1002), rows.formatted(1, 1005), rows.formatted(2, 1000),
                single.formatted(0), single.formatted(1), single.formatted(2),
                zero.formatted(0), zero.formatted(1), zero.formatted(2));
    }

    private static void measuredGains(Edges edges) {
        edges.sentence("2. The measured gain of each channel is its level times 1000, divided by the "
                + "drive, rounded down", """
                setLines(100, 150, 100) = 5
                setPoint(100, 500) = 1
                addChannel(true, 1500, 200000) = 0
                addChannel(false, 333, 200000) = 1
                addChannel(false, 334, 200000) = 2
                addChannel(false, 667, 200000) = 3
                start(3) = 5
                step(1) = 1
                # levels of 4, 0, 1 and 2 with a drive of 3
                averaged(0, 0) = 1333
                averaged(0, 1) = 0
                averaged(0, 2) = 333
                averaged(0, 3) = 666
                """, GREATEST_DRIVE + """
                setMode(1, 0, 100, 500, 50000) = 50000
                step(1) = 1
                level(0, 1) = 5000000
                # 5000000 * 1000 is beyond an int
                averaged(0, 1) = 50000
                """);
        edges.sentence("the measured control gain is that of the control level likewise", """
                setLines(100, 150, 100) = 5
                setPoint(100, 500) = 1
                addChannel(true, 1000, 200000) = 0
                addChannel(true, 2001, 200000) = 1
                start(7) = 5
                step(1) = 1
                # (7 + 14) / 2 is 10; 10000 / 7 is 1428, the gains' average would be 1500
                controlGain(0) = 1428
                """);
    }

    private static void averagedGains(Edges edges) {
        edges.sentence("The averaged gain of each channel at this line, and the averaged control gain "
                + "at this line, become the measured ones if there are none yet", FLAT + """
                addChannel(false, 3000, 200000) = 1
                set(1, 8) = 1
                start(100) = 5
                averaged(0, 0) = NONE
                controlGain(0) = NONE
                step(1) = 1
                averaged(0, 0) = 1000
                averaged(0, 1) = 3000
                controlGain(0) = 1000
                averaged(1, 0) = NONE
                controlGain(1) = NONE
                """, NO_GAIN + """
                set(1, 2) = 1
                start(100) = 5
                hold(true) = 0
                step(1) = 1
                averaged(0, 0) = 0
                controlGain(0) = 0
                setMode(0, 0, 100, 1, 1000) = 1000
                step(1) = 1
                # an averaged gain of 0 is not none
                averaged(0, 0) = 500
                controlGain(0) = 500
                """);
        String rows = FLAT + """
                set(1, %d) = 1
                start(100) = 5
                hold(true) = 0
                step(1) = 1
                setMode(0, 0, 100, 1, 1000) = 2000
                step(1) = 1
                averaged(0, 0) = %d
                controlGain(0) = %d
                """;
        edges.sentence("and otherwise (old * (n - 1) + measured) / n, rounded down, with n as the "
                + "averaging", rows.formatted(1, 2000, 2000), rows.formatted(2, 1500, 1500),
                rows.formatted(3, 1333, 1333), rows.formatted(8, 1125, 1125));
    }

    private static void excesses(Edges edges) {
        edges.sentence("3. A channel is above its notch limit if it has one at the frequency of the "
                + "line and its level is greater", FLAT + """
                addChannel(false, 1000, 200000) = 1
                addChannel(false, 1000, 200000) = 2
                addChannel(false, 1000, 200000) = 3
                addNotch(0, 100, 100, 100) = 0
                addNotch(1, 100, 100, 99) = 0
                addNotch(2, 101, 2000, 1) = 0
                addNotch(3, 1, 99, 1) = 0
                start(100) = 5
                step(1) = 1
                channel(0, 4) = 0
                channel(1, 4) = 1
                channel(2, 4) = 0
                channel(3, 4) = 0
                """);
        edges.sentence("its excess is then the level less the limit", FLAT + """
                addChannel(false, 1000, 200000) = 1
                addChannel(false, 1000, 200000) = 2
                addNotch(0, 100, 100, 100) = 0
                addNotch(1, 100, 100, 99) = 0
                addNotch(2, 100, 100, 1) = 0
                start(100) = 5
                step(1) = 1
                channel(0, 6) = 0
                channel(1, 6) = 1
                channel(2, 6) = 99
                """);
        edges.sentence("For each channel it is counted for how many loops, one after the other, it has "
                + "been above its notch limit (0 if it is not above it in this loop)",
                ABOVE_ITS_NOTCH + """
                step(1) = 1
                channel(0, 4) = 1
                channel(1, 4) = 0
                step(1) = 1
                channel(0, 4) = 2
                step(50) = 50
                channel(0, 4) = 52
                channel(1, 4) = 0
                hold(false) = 0
                step(1) = 1
                channel(0, 4) = 53
                step(1) = 1
                channel(0, 4) = 0
                """);
    }

    private static void tooLong(Edges edges) {
        edges.sentence("4. For each channel it is counted for how many loops, one after the other, its "
                + "level has been greater than its abort limit (0 if it is not in this loop)", """
                setLines(100, 150, 100) = 5
                setPoint(100, 500) = 1
                addChannel(true, 1000, 100) = 0
                addChannel(false, 1000, 99) = 1
                addChannel(false, 0, 1) = 2
                set(2, 5) = 1
                start(100) = 5
                hold(true) = 0
                step(1) = 1
                # 100 is greater than 99, and not than 100
                channel(0, 7) = 0
                channel(1, 7) = 1
                channel(2, 7) = 0
                step(1) = 1
                channel(0, 7) = 1
                channel(1, 7) = 2
                addNotch(1, 100, 100, 100) = 0
                step(1) = 1
                channel(0, 7) = 2
                channel(1, 7) = 3
                # the drive was lowered to 100
                step(1) = 1
                channel(0, 7) = 0
                channel(1, 7) = 4
                """);
        String tooHigh = FLAT + "addChannel(false, 1000, 99) = 1\n";
        edges.sentence("If this count of a channel is at least the patience, the controller aborts",
                tooHigh + """
                start(99) = 5
                step(1) = 1
                total(0) = 1
                step(1) = 1
                total(0) = 3
                """, tooHigh + """
                set(2, 5) = 1
                start(100) = 5
                step(4) = 4
                channel(1, 7) = 4
                total(0) = 1
                step(1) = 1
                channel(1, 7) = 5
                total(0) = 3
                """, tooHigh + """
                set(2, 5) = 1
                start(100) = 5
                hold(true) = 0
                step(3) = 3
                # more than the patience, when that becomes less
                set(2, 1) = 5
                total(0) = 2
                step(1) = 1
                channel(1, 7) = 4
                total(0) = 3
                """, tooHigh + """
                set(2, 5) = 1
                start(100) = 5
                hold(true) = 0
                addNotch(1, 100, 100, 99) = 0
                step(1) = 1
                channel(1, 7) = 1
                set(2, 1) = 5
                # the count of 1 was not judged by this patience, and it ends in this loop
                step(1) = 1
                channel(1, 7) = 0
                total(0) = 2
                """);
    }

    private static void aborts(Edges edges) {
        edges.sentence("the state becomes aborting, the channel (of several the one with the smallest "
                + "number) and the line are kept as those of the abort, and the loop ends here",
                FLAT + """
                addChannel(false, 1000, 150) = 1
                addChannel(false, 1000, 140) = 2
                addChannel(false, 1000, 150) = 3
                set(5, 2) = 1
                start(100) = 5
                step(3) = 3
                level(2, 1) = 158
                total(0) = 3
                total(9) = 1
                total(10) = 2
                # the line, the drive and the direction stay, and all channels are counted
                total(1) = 2
                total(2) = 158
                total(6) = 0
                total(7) = 1
                driveAt(3) = NONE
                channel(2, 7) = 1
                channel(3, 7) = 1
                """, FLAT + """
                addChannel(false, 1000, 110) = 1
                addChannel(false, 1000, 99) = 2
                set(2, 3) = 1
                start(100) = 5
                step(3) = 3
                # channel 1 is too high for two loops only
                channel(1, 7) = 2
                total(9) = 2
                total(10) = 2
                """, """
                setLines(100, 150, 100) = 5
                setPoint(100, 500) = 1
                addChannel(true, 1000, 99) = 0
                start(100) = 5
                hold(true) = 0
                step(1) = 1
                total(0) = 3
                total(9) = 0
                total(10) = 0
                driveAt(0) = 100
                """, FLAT + """
                addChannel(false, 1000, 247) = 1
                set(5, 2) = 1
                start(100) = 5
                step(5) = 5
                level(4, 0) = 248
                # no sweep is finished at the last line, and it does not turn
                total(0) = 3
                total(1) = 4
                total(6) = 0
                total(7) = 1
                total(10) = 4
                """);
    }

    private static void nextLine(Edges edges) {
        edges.sentence("5. If the state is holding, the next line is this line", FLAT + """
                start(100) = 5
                hold(true) = 0
                step(1) = 1
                total(1) = 0
                driveAt(0) = 126
                hold(false) = 0
                step(4) = 4
                # the last line, too: no sweep is finished
                hold(true) = 4
                step(50) = 50
                total(0) = 2
                total(1) = 4
                total(6) = 0
                """);
        edges.sentence("If it is sweeping, the next line is the following one in the direction of the "
                + "sweep", FLAT + """
                set(5, 2) = 1
                start(100) = 5
                step(1) = 1
                total(1) = 1
                step(1) = 1
                total(1) = 2
                step(2) = 2
                total(1) = 4
                step(1) = 1
                total(1) = 3
                step(1) = 1
                total(1) = 2
                step(2) = 2
                total(1) = 0
                """);
    }

    private static void turning(Edges edges) {
        edges.sentence("If there is none, the sweep is finished: if as many sweeps are finished as the "
                + "setting tells, or more, the state becomes done, the drive 0, and the loop ends here",
                FLAT + """
                start(100) = 5
                step(4) = 4
                total(6) = 0
                total(2) = 248
                step(1) = 1
                total(0) = 5
                total(6) = 1
                total(2) = 0
                total(1) = 4
                total(7) = 1
                driveAt(4) = 248
                driveAt(3) = 198
                """, FLAT + """
                set(5, 2) = 1
                start(100) = 5
                step(5) = 5
                total(0) = 1
                total(6) = 1
                step(3) = 3
                total(0) = 1
                step(1) = 1
                # downwards, too
                total(0) = 5
                total(6) = 2
                total(1) = 0
                """, FLAT + """
                set(5, 9) = 1
                start(100) = 5
                step(9) = 9
                total(6) = 2
                set(5, 1) = 9
                # more are finished than the setting tells, but that is looked at when one more is
                total(0) = 1
                step(3) = 3
                total(0) = 1
                step(50) = 1
                total(0) = 5
                total(6) = 3
                """);
        edges.sentence("otherwise the direction turns, and the next line is the following one in the "
                + "new direction (this line, if it is the only one)", FLAT + """
                set(5, 3) = 1
                start(100) = 5
                step(4) = 4
                total(7) = 1
                step(1) = 1
                total(1) = 3
                total(7) = 0
                step(3) = 3
                total(1) = 0
                total(7) = 0
                step(1) = 1
                total(1) = 1
                total(7) = 1
                """, """
                setLines(100, 100, 100) = 1
                setPoint(100, 500) = 1
                addChannel(true, 1000, 200000) = 0
                set(5, 3) = 1
                start(100) = 1
                step(1) = 1
                total(1) = 0
                total(6) = 1
                total(7) = 0
                driveAt(0) = 126
                step(1) = 1
                total(1) = 0
                total(6) = 2
                total(7) = 1
                step(50) = 1
                total(0) = 5
                """, """
                setLines(100, 110, 100) = 2
                setPoint(100, 500) = 1
                addChannel(true, 1000, 200000) = 0
                set(5, 3) = 1
                start(100) = 2
                step(2) = 2
                total(1) = 0
                total(7) = 0
                step(1) = 1
                total(1) = 1
                total(7) = 1
                """);
    }

    private static void driveByTheAveragedGain(Edges edges) {
        edges.sentence("6. The drive for the next line is found: it is the target at the next line "
                + "times 1000, divided by the averaged control gain at the next line, if there is one "
                + "and it is above 0", FLAT + """
                setMode(0, 0, 110, 1, 1000) = 2000
                setPoint(110, 480) = 2
                start(250) = 5
                step(50) = 5
                controlGain(1) = 2000
                start(250) = 5
                step(1) = 1
                # by the level of 252 at line 0 it would be 313
                driveAt(1) = 240
                """, """
                setLines(100, 150, 100) = 5
                setPoint(100, 1) = 1
                addChannel(true, 1, 200000) = 0
                set(1, 8) = 1
                start(1000) = 5
                hold(true) = 0
                step(1) = 1
                setMode(0, 0, 100, 1, 1) = 2
                step(1) = 1
                level(0, 0) = 2
                # an averaged gain of 1 is above 0; by the level of 2 it would be 500
                controlGain(0) = 1
                driveAt(0) = 1000
                """);
    }

    private static void driveWithoutAnAveragedGain(Edges edges) {
        edges.sentence("otherwise the drive times the target at the next line, divided by the control "
                + "level of this loop, if that is above 0", FLAT + """
                setPoint(110, 119) = 2
                start(100) = 5
                step(1) = 1
                driveAt(1) = 119
                """, """
                setLines(100, 150, 100) = 5
                setPoint(100, 1) = 1
                addChannel(true, 1, 200000) = 0
                start(1000) = 5
                step(1) = 1
                # a level of 1 is above 0: twice the drive would be too high by far
                level(0, 0) = 1
                driveAt(1) = 1000
                """, NO_GAIN + """
                start(100) = 5
                step(50) = 5
                controlGain(1) = 0
                setMode(0, 0, 100, 1, 1000) = 1000
                start(100) = 5
                step(1) = 1
                # an averaged gain of 0 is not above 0
                driveAt(1) = 110
                """, GREATEST_DRIVE + """
                setMode(0, 0, 100, 1, 599) = 600
                hold(false) = 0
                step(1) = 1
                # 100000 * 50000 is beyond an int; it is divided by 60000
                level(0, 0) = 60000
                driveAt(1) = 83333
                """);
        edges.sentence("otherwise twice the drive", NO_GAIN + """
                set(3, 100) = 25
                start(5) = 5
                step(1) = 1
                controlGain(0) = 0
                driveAt(1) = 10
                step(1) = 1
                driveAt(2) = 20
                """, """
                setLines(100, 150, 100) = 5
                setPoint(100, 500) = 1
                addChannel(true, 999, 200000) = 0
                set(3, 100) = 25
                start(1) = 5
                step(1) = 1
                # the level of 0.999 is 0
                driveAt(1) = 2
                """);
        edges.sentence("All are rounded down", """
                setLines(100, 150, 100) = 5
                setPoint(100, 105) = 1
                addChannel(true, 1500, 200000) = 0
                start(67) = 5
                step(1) = 1
                level(0, 0) = 100
                # 67 * 105 / 100
                driveAt(1) = 70
                """, """
                setLines(100, 150, 100) = 5
                setPoint(100, 500) = 1
                addChannel(true, 1500, 200000) = 0
                start(333) = 5
                hold(true) = 0
                step(1) = 1
                # 500000 / 1498 is 333.8
                controlGain(0) = 1498
                driveAt(0) = 333
                """);
    }

    private static void fallAndRise(Edges edges) {
        String fall = """
                setLines(100, 150, 100) = 5
                setPoint(100, 1) = 1
                addChannel(true, 1000, 200000) = 0
                start(%d) = 5
                step(1) = 1
                driveAt(1) = %d
                """;
        String fallTo = """
                setLines(100, 150, 100) = 5
                setPoint(100, %d) = 1
                addChannel(true, 1000, 200000) = 0
                start(101) = 5
                step(1) = 1
                driveAt(1) = %d
                """;
        edges.sentence("Then it is raised to the drive of this loop less half of that (the half "
                + "rounded down) if it is lower", fall.formatted(1000, 500), fall.formatted(999, 500),
                fall.formatted(3, 2), fall.formatted(2, 1), fall.formatted(1, 1),
                fallTo.formatted(50, 51), fallTo.formatted(51, 51), fallTo.formatted(52, 52));
        String rise = """
                setLines(100, 150, 100) = 5
                setPoint(100, %d) = 1
                addChannel(true, 1000, 200000) = 0
                set(3, %d) = 25
                start(%d) = 5
                step(1) = 1
                driveAt(1) = %d
                """;
        edges.sentence("and lowered to the drive of this loop plus the rise as a percentage of it "
                + "(rounded down) plus 1 if it is higher", rise.formatted(50000, 25, 100, 126),
                rise.formatted(50000, 25, 103, 129), rise.formatted(50000, 25, 104, 131),
                rise.formatted(50000, 1, 99, 100), rise.formatted(50000, 1, 100, 102),
                rise.formatted(50000, 100, 100, 201), rise.formatted(50000, 1, 1, 2),
                rise.formatted(50000, 100, 1000, 2001), rise.formatted(127, 25, 100, 126),
                rise.formatted(126, 25, 100, 126), rise.formatted(125, 25, 100, 125));
    }

    private static void notching(Edges edges) {
        String words = "Then, for each channel in ascending order that has a notch limit at the "
                + "frequency of the next line: with its averaged gain at the next line, if there is "
                + "one, and otherwise its measured gain in this loop, as g, and if g is above 0, the "
                + "drive is lowered to the limit times 1000, divided by g, rounded down, if it is "
                + "higher";
        edges.sentence(words, FLAT + """
                addChannel(false, 1500, 200000) = 1
                addNotch(1, 110, 110, 100) = 0
                start(100) = 5
                step(1) = 1
                # the notch is at the next line, and 100000 / 1500 is 66.7
                driveAt(1) = 66
                step(1) = 1
                # there is none at the line behind it
                driveAt(2) = 83
                """, FLAT + """
                addChannel(false, 1000, 200000) = 1
                addNotch(1, 110, 110, 100) = 0
                setMode(1, 0, 110, 1, 1000) = 2000
                start(100) = 5
                step(50) = 5
                averaged(0, 1) = 1000
                averaged(1, 1) = 2000
                setMode(1, 0, 110, 1, 0) = 1000
                start(100) = 5
                step(1) = 1
                # by the averaged gain of line 1, not by what was measured at line 0
                driveAt(1) = 50
                """, FLAT + """
                addChannel(false, 0, 200000) = 1
                addNotch(1, 110, 110, 1) = 0
                start(100) = 5
                step(50) = 5
                # a g of 0 was measured: it is not lowered
                driveAt(1) = 126
                averaged(1, 1) = 0
                setMode(1, 0, 100, 1, 1000) = 1000
                start(100) = 5
                step(1) = 1
                # a g of 0 was averaged, also if that measured in this loop is above 0
                averaged(0, 1) = 1000
                driveAt(1) = 126
                notchedBy(1) = NONE
                """, """
                setLines(100, 150, 100) = 5
                setPoint(100, 50000) = 1
                addChannel(true, 1, 200000) = 0
                addNotch(0, 110, 110, 1) = 0
                start(1000) = 5
                step(1) = 1
                # a g of 1
                averaged(0, 0) = 1
                driveAt(1) = 1000
                """, """
                setLines(100, 150, 100) = 5
                setPoint(100, 50000) = 1
                addChannel(true, 1000, 200000) = 0
                addChannel(false, 0, 200000) = 1
                addNotch(1, 110, 110, 1) = 0
                start(1000) = 5
                step(1) = 1
                # a g of 0 with a drive above 1000
                driveAt(1) = 1251
                """, FLAT + """
                addNotch(0, 110, 110, 126) = 0
                addNotch(0, 121, 121, 200000) = 1
                start(100) = 5
                step(2) = 2
                # it is not higher: it is neither lowered nor raised
                driveAt(1) = 126
                driveAt(2) = 158
                """);
    }

    private static void edgesOfNotching(Edges edges) {
        edges.sentence("the next line is notched by the last channel that lowers it so, or by none",
                FLAT + """
                addChannel(false, 2000, 200000) = 1
                addChannel(false, 4000, 200000) = 2
                addChannel(false, 1000, 200000) = 3
                addNotch(1, 110, 110, 200) = 0
                addNotch(2, 110, 110, 300) = 0
                addNotch(3, 110, 110, 75) = 0
                start(100) = 5
                notchedBy(0) = NONE
                step(1) = 1
                # lowered to 100, then to 75; it is not higher than 75 then
                driveAt(1) = 75
                notchedBy(1) = 2
                step(1) = 1
                notchedBy(2) = NONE
                """, FLAT + """
                addChannel(false, 1000, 200000) = 1
                addNotch(0, 110, 110, 75) = 0
                addNotch(1, 110, 110, 100) = 0
                start(100) = 5
                step(1) = 1
                driveAt(1) = 75
                notchedBy(1) = 0
                """, FLAT + """
                addNotch(0, 110, 110, 126) = 0
                start(100) = 5
                step(1) = 1
                # it is not higher
                driveAt(1) = 126
                notchedBy(1) = NONE
                """, FLAT + """
                addNotch(0, 110, 110, 125) = 0
                start(100) = 5
                step(1) = 1
                driveAt(1) = 125
                notchedBy(1) = 0
                """, FLAT + """
                addNotch(0, 100, 100, 99) = 0
                start(100) = 5
                hold(true) = 0
                step(1) = 1
                driveAt(0) = 99
                notchedBy(0) = 0
                step(1) = 1
                # it would rise again, and is lowered again
                driveAt(0) = 99
                notchedBy(0) = 0
                """, FLAT + """
                addNotch(0, 110, 110, 99) = 0
                set(5, 3) = 1
                start(30) = 5
                step(1) = 1
                notchedBy(1) = NONE
                step(7) = 7
                # at the second time it is notched
                total(1) = 0
                notchedBy(1) = 0
                """, FLAT + """
                addChannel(false, 500, 200000) = 1
                setMode(1, 0, 100, 1, 1500) = 2000
                addNotch(1, 100, 100, 200) = 0
                start(100) = 5
                hold(true) = 0
                step(1) = 1
                notchedBy(0) = 1
                setMode(1, 0, 100, 1, 0) = 500
                step(1) = 1
                # and here no longer
                driveAt(0) = 126
                notchedBy(0) = NONE
                """);
    }

    private static void lastOfTheDrive(Edges edges) {
        edges.sentence("Last, it is lowered to 100000 if it is higher, and raised to 1 if it is lower",
                GREATEST_DRIVE + """
                step(1) = 1
                driveAt(0) = 100000
                hold(false) = 0
                step(1) = 1
                driveAt(1) = 100000
                notchedBy(1) = NONE
                """, """
                setLines(100, 150, 100) = 5
                setPoint(100, 1) = 1
                addChannel(true, 5000, 200000) = 0
                addNotch(0, 121, 121, 4) = 0
                start(1) = 5
                step(1) = 1
                # 1000 / 5000 is 0; it falls by the half of 1, which is 0
                driveAt(1) = 1
                step(1) = 1
                # 4000 / 5000 is 0
                driveAt(2) = 1
                notchedBy(2) = 0
                """, FLAT + """
                setMode(0, 0, 110, 500, 50000) = 51000
                addNotch(0, 110, 110, 1) = 0
                start(1000) = 5
                step(1) = 1
                total(2) = 1
                """);
        edges.sentence("The line becomes the next line, and the drive becomes this drive", FLAT + """
                start(100) = 5
                step(1) = 1
                total(1) = 1
                total(2) = 126
                driveAt(1) = 126
                step(1) = 1
                total(1) = 2
                total(2) = 158
                level(1, 0) = 126
                """, FLAT + """
                addNotch(0, 110, 110, 70) = 0
                start(100) = 5
                step(1) = 1
                total(2) = 70
                step(1) = 1
                level(1, 0) = 70
                """);
    }

    private static void aborting(Edges edges) {
        String half = FLAT + """
                start(100) = 5
                abort() = 0
                step(1) = 1
                total(2) = 50
                step(1) = 1
                total(2) = 25
                step(1) = 1
                total(2) = 12
                step(1) = 1
                total(2) = 6
                step(1) = 1
                total(2) = 3
                step(1) = 1
                total(2) = 1
                total(0) = 3
                step(1) = 1
                total(2) = 0
                total(0) = 4
                total(8) = 7
                level(0, 0) = NONE
                """;
        String ramp = FLAT + """
                set(4, %d) = 50
                start(%d) = 5
                abort() = 0
                step(50) = %d
                total(0) = 4
                total(2) = 0
                """;
        // By 90 percent, 9, 8, 7 .. go down by 1 each.
        edges.sentence("A loop in the state aborting sets the drive to the drive times the ramp, "
                + "divided by 100, rounded down; if it is 0 then, the state becomes aborted", half,
                ramp.formatted(10, 1, 1), ramp.formatted(10, 9, 1), ramp.formatted(10, 10, 2),
                ramp.formatted(10, 1000, 4), ramp.formatted(90, 1, 1), ramp.formatted(90, 2, 2),
                ramp.formatted(90, 9, 9), GREATEST_DRIVE + """
                set(4, 90) = 50
                abort() = 0
                step(1) = 1
                total(2) = 90000
                """);
    }

    private static void reason(Edges edges) {
        edges.sentence("The reason is that of the latest start that was tried, 0 if it was not "
                + "refused; at first it is 0", """
                total(11) = 0
                start(1) = REFUSED
                total(11) = 2
                setLines(100, 150, 100) = 5
                total(11) = 2
                start(1) = REFUSED
                total(11) = 3
                setPoint(100, 500) = 1
                addChannel(true, 1000, 200000) = 0
                start(1) = 5
                total(11) = 0
                start(1) = REFUSED
                total(11) = 1
                step(50) = 5
                total(11) = 1
                start(1) = 5
                total(11) = 0
                """, """
                type g1;
                run() = 0
                total(11) = 2
                """);
        edges.sentence("It belongs to the state", """
                save(0) = 0
                set(0, 0) = 0
                start(1) = REFUSED
                save(1) = 0
                total(11) = 2
                undo() = 0
                total(11) = 0
                restore(1) = 0
                total(11) = 2
                restore(0) = 0
                total(11) = 0
                undo() = 1
                total(11) = 2
                """);
    }
}
