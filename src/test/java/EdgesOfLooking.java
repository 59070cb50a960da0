/** Sentences of promises 19 to 30: looking. */
final class EdgesOfLooking {
    private static final String FLAT = Edges.FLAT;
    private static final String DONE = Edges.DONE;
    private static final String ABORTED = Edges.ABORTED;

    private EdgesOfLooking() {
    }

    static void tell(Edges edges) {
        frequencies(edges);
        targets(edges);
        gains(edges);
        limits(edges);
        channels(edges);
        countsOfNotches(edges);
        countsOfAborts(edges);
        levels(edges);
        averagedGains(edges);
        controlGains(edges);
        drives(edges);
        notchers(edges);
        resonances(edges);
        errorsOfResonances(edges);
        totals(edges);
        totalsOfRuns(edges);
        totalsOfAborts(edges);
    }

    /** Asks for a line with five lines there. */
    private static String noSuchLine(String call) {
        return FLAT + """
                ?-1) = BAD_INDEX
                ?5) = BAD_INDEX
                ?99) = BAD_INDEX
                ?100) = BAD_INDEX
                ?MIN) = BAD_INDEX
                ?MAX) = BAD_INDEX
                """.replace("?", call + "(");
    }

    private static void frequencies(Edges edges) {
        edges.promise(19, "frequency", "int frequency(int line)");
        edges.noEdge("Returns the frequency of a line");
        edges.sentence("`line`: a line", FLAT + """
                frequency(-1) = BAD_INDEX
                frequency(0) = 100
                frequency(4) = 146
                frequency(5) = BAD_INDEX
                """);
        edges.sentence("Returns the frequency", FLAT + """
                frequency(0) = 100
                frequency(1) = 110
                frequency(2) = 121
                frequency(3) = 133
                frequency(4) = 146
                setLines(5, 104, 10) = 100
                frequency(0) = 5
                frequency(99) = 104
                """);
        edges.sentence("BAD_INDEX if there is no such line", "frequency(0) = BAD_INDEX",
                noSuchLine("frequency"), """
                setLines(5, 104, 10) = 100
                frequency(100) = BAD_INDEX
                setLines(5, 5, 10) = 1
                # lines that there were are none
                frequency(1) = BAD_INDEX
                """);
    }

    private static void targets(Edges edges) {
        edges.promise(20, "target", "int target(int frequency)");
        edges.noEdge("Returns the target at a frequency");
        edges.sentence("`frequency`: 1 to 2000", """
                setPoint(100, 50) = 1
                target(0) = BAD_VALUE
                target(1) = 50
                target(2000) = 50
                target(2001) = BAD_VALUE
                target(-1) = BAD_VALUE
                target(MIN) = BAD_VALUE
                target(MAX) = BAD_VALUE
                """);
        edges.sentence("Returns the target", """
                setPoint(100, 50) = 1
                setPoint(102, 60) = 2
                target(99) = 50
                target(100) = 50
                target(101) = 55
                target(102) = 60
                target(103) = 60
                """);
        edges.sentence("BAD_VALUE if frequency is out of range", """
                target(0) = BAD_VALUE
                target(2001) = BAD_VALUE
                """);
        edges.sentence("NONE if the profile has no points", """
                target(1) = NONE
                target(2000) = NONE
                setPoint(1, 1) = 1
                target(1) = 1
                undo() = 0
                target(1) = NONE
                """);
    }

    private static void gains(Edges edges) {
        edges.promise(21, "gain", "int gain(int channel, int frequency)");
        edges.noEdge("Returns the gain of a channel at a frequency");
        edges.sentence("`channel`: a channel", """
                addChannel(true, 5, 5) = 0
                addChannel(true, 6, 5) = 1
                gain(-1, 5) = BAD_INDEX
                gain(0, 5) = 5
                gain(1, 5) = 6
                gain(2, 5) = BAD_INDEX
                """);
        edges.sentence("`frequency`: 1 to 2000", """
                addChannel(true, 5, 5) = 0
                gain(0, 0) = BAD_VALUE
                gain(0, 1) = 5
                gain(0, 2000) = 5
                gain(0, 2001) = BAD_VALUE
                gain(0, MIN) = BAD_VALUE
                gain(0, MAX) = BAD_VALUE
                """);
        edges.sentence("Returns the gain", """
                addChannel(true, 5, 5) = 0
                setMode(0, 0, 1, 1, 100) = 105
                setMode(0, 1, 2000, 2, 50) = 55
                gain(0, 1) = 105
                gain(0, 2) = 55
                gain(0, 1999) = 45
                gain(0, 2000) = 55
                """);
        edges.sentence("BAD_INDEX if there is no such channel", """
                gain(0, 1) = BAD_INDEX
                addChannel(true, 5, 5) = 0
                gain(1, 1) = BAD_INDEX
                gain(6, 1) = BAD_INDEX
                gain(MIN, 1) = BAD_INDEX
                gain(MAX, 1) = BAD_INDEX
                gain(1, 0) = BAD_INDEX
                undo() = 0
                gain(0, 1) = BAD_INDEX
                """);
        edges.sentence("BAD_VALUE if frequency is out of range", """
                addChannel(true, 5, 5) = 0
                gain(0, 0) = BAD_VALUE
                gain(0, 2001) = BAD_VALUE
                """);
    }

    private static void limits(Edges edges) {
        String notched = "addChannel(true, 5, 5) = 0\naddNotch(0, 1, 2000, 7) = 0\n";
        edges.promise(22, "limit", "int limit(int channel, int frequency)");
        edges.noEdge("Returns the notch limit of a channel at a frequency");
        edges.sentence("`channel`: a channel", notched + """
                addChannel(true, 5, 5) = 1
                limit(-1, 5) = BAD_INDEX
                limit(0, 5) = 7
                limit(1, 5) = NONE
                limit(2, 5) = BAD_INDEX
                """);
        edges.sentence("`frequency`: 1 to 2000", notched + """
                limit(0, 0) = BAD_VALUE
                limit(0, 1) = 7
                limit(0, 2000) = 7
                limit(0, 2001) = BAD_VALUE
                limit(0, MIN) = BAD_VALUE
                limit(0, MAX) = BAD_VALUE
                """);
        edges.sentence("Returns the limit", notched + """
                addNotch(0, 10, 20, 5) = 1
                addNotch(0, 20, 30, 6) = 2
                limit(0, 9) = 7
                limit(0, 10) = 5
                limit(0, 20) = 5
                limit(0, 21) = 6
                limit(0, 31) = 7
                """);
        edges.sentence("BAD_INDEX if there is no such channel", """
                limit(0, 1) = BAD_INDEX
                limit(0, 0) = BAD_INDEX
                """, notched + """
                limit(1, 1) = BAD_INDEX
                limit(6, 1) = BAD_INDEX
                limit(MIN, 1) = BAD_INDEX
                limit(MAX, 1) = BAD_INDEX
                """);
        edges.sentence("BAD_VALUE if frequency is out of range", """
                addChannel(true, 5, 5) = 0
                limit(0, 0) = BAD_VALUE
                limit(0, 2001) = BAD_VALUE
                """);
        edges.sentence("NONE if the channel has none there", """
                addChannel(true, 5, 5) = 0
                limit(0, 1) = NONE
                limit(0, 2000) = NONE
                addNotch(0, 10, 20, 7) = 0
                limit(0, 9) = NONE
                limit(0, 10) = 7
                limit(0, 20) = 7
                limit(0, 21) = NONE
                """);
    }

    private static void channels(Edges edges) {
        String two = "addChannel(true, 4, 5) = 0\naddChannel(false, 6, 7) = 1\n";
        edges.promise(23, "channel", "int channel(int channel, int property)");
        edges.noEdge("Returns a property of a channel");
        edges.sentence("`channel`: a channel", two + """
                channel(-1, 1) = BAD_INDEX
                channel(0, 1) = 4
                channel(1, 1) = 6
                channel(2, 1) = BAD_INDEX
                """);
        edges.sentence("`property`: 0 1 for a control channel and 0 for a monitor channel", two + """
                channel(0, 0) = 1
                channel(1, 0) = 0
                channel(0, -1) = BAD_VALUE
                """);
        edges.sentence("1 its base gain", two + """
                setMode(1, 0, 1, 500, 100) = 106
                channel(0, 1) = 4
                channel(1, 1) = 6
                """);
        edges.sentence("2 its abort limit", two + "channel(0, 2) = 5\nchannel(1, 2) = 7");
        edges.sentence("3 the number of its notches", two + """
                channel(0, 3) = 0
                addNotch(0, 1, 1, 1) = 0
                channel(0, 3) = 1
                addNotch(0, 1, 1, 1) = 1
                addNotch(0, 1, 1, 1) = 2
                addNotch(0, 1, 1, 1) = 3
                channel(0, 3) = 4
                addNotch(0, 1, 1, 1) = FULL
                channel(0, 3) = 4
                channel(1, 3) = 0
                """);
    }

    /**
     * Channel 0 is above its notch limits, which the least drive cannot keep, for two loops at line
     * 0, by 1, for none at line 1, and for one loop at line 2, by 3.
     */
    private static final String TWO_AND_ONE = """
            setLines(100, 150, 100) = 5
            setPoint(100, 1) = 1
            addChannel(true, 5000, 200000) = 0
            addNotch(0, 100, 100, 4) = 0
            addNotch(0, 121, 121, 2) = 1
            start(1) = 5
            hold(true) = 0
            step(1) = 1
            hold(false) = 0
            step(3) = 3
            """;

    private static void countsOfNotches(Edges edges) {
        edges.sentence("4 for how many loops it has been above its notch limit by now", TWO_AND_ONE + """
                channel(0, 4) = 1
                step(1) = 1
                channel(0, 4) = 0
                """, """
                setLines(100, 150, 100) = 5
                setPoint(100, 1) = 1
                addChannel(true, 5000, 200000) = 0
                addNotch(0, 100, 100, 4) = 0
                start(1) = 5
                channel(0, 4) = 0
                hold(true) = 0
                step(1) = 1
                channel(0, 4) = 1
                step(6) = 6
                channel(0, 4) = 7
                # no loop of an abort counts
                abort() = 0
                step(1) = 1
                total(0) = 4
                channel(0, 4) = 7
                """);
        edges.sentence("5 the greatest number of loops, one after the other, for which it was above its "
                + "notch limit since the start", TWO_AND_ONE + """
                channel(0, 5) = 2
                step(50) = 2
                channel(0, 5) = 2
                start(1) = 5
                channel(0, 5) = 0
                step(1) = 1
                channel(0, 5) = 1
                step(1) = 1
                channel(0, 5) = 1
                """);
        edges.sentence("6 its greatest excess since the start (0 if it had none)", TWO_AND_ONE + """
                channel(0, 6) = 3
                step(50) = 2
                channel(0, 6) = 3
                start(1) = 5
                channel(0, 6) = 0
                step(1) = 1
                channel(0, 6) = 1
                """, FLAT + """
                addNotch(0, 100, 100, 200) = 0
                start(100) = 5
                step(50) = 5
                channel(0, 6) = 0
                """, FLAT + """
                addNotch(0, 100, 100, 60) = 0
                start(100) = 5
                hold(true) = 0
                step(1) = 1
                channel(0, 6) = 40
                setMode(0, 0, 100, 1, 200) = 1200
                step(1) = 1
                # an excess of 12 is not the greatest
                level(0, 0) = 72
                channel(0, 6) = 40
                """);
    }

    private static void countsOfAborts(Edges edges) {
        edges.sentence("7 for how many loops its level has been greater than its abort limit by now",
                FLAT + """
                addChannel(false, 1000, 100) = 1
                set(2, 5) = 1
                start(100) = 5
                channel(1, 7) = 0
                hold(true) = 0
                step(1) = 1
                channel(1, 7) = 0
                step(1) = 1
                channel(1, 7) = 1
                step(2) = 2
                channel(1, 7) = 3
                addNotch(1, 100, 100, 100) = 0
                step(1) = 1
                channel(1, 7) = 4
                step(1) = 1
                channel(1, 7) = 0
                """, FLAT + """
                addChannel(false, 1000, 99) = 1
                start(100) = 5
                step(3) = 3
                # no loop of an abort counts
                total(0) = 3
                channel(1, 7) = 1
                """);
        edges.sentence("Returns the property (4 to 7 are 0 ahead of any start)", """
                addChannel(true, 4, 5) = 0
                channel(0, 4) = 0
                channel(0, 5) = 0
                channel(0, 6) = 0
                channel(0, 7) = 0
                """, FLAT + DONE + """
                addChannel(true, 4, 5) = 1
                channel(1, 4) = 0
                channel(1, 5) = 0
                channel(1, 6) = 0
                channel(1, 7) = 0
                """);
        edges.sentence("BAD_INDEX if there is no such channel", """
                channel(0, 0) = BAD_INDEX
                channel(0, 8) = BAD_INDEX
                addChannel(true, 4, 5) = 0
                channel(1, 0) = BAD_INDEX
                channel(1, 8) = BAD_INDEX
                channel(6, 0) = BAD_INDEX
                channel(MIN, 0) = BAD_INDEX
                channel(MAX, 0) = BAD_INDEX
                """);
        edges.sentence("BAD_VALUE if property is out of range", """
                addChannel(true, 4, 5) = 0
                channel(0, -1) = BAD_VALUE
                channel(0, 0) = 1
                channel(0, 7) = 0
                channel(0, 8) = BAD_VALUE
                channel(0, MIN) = BAD_VALUE
                channel(0, MAX) = BAD_VALUE
                """);
    }

    /** Asks for a line and a channel, with five lines and one channel there. */
    private static String noSuchPlace(String call) {
        return FLAT + DONE + """
                ?-1, 0) = BAD_INDEX
                ?5, 0) = BAD_INDEX
                ?0, -1) = BAD_INDEX
                ?0, 1) = BAD_INDEX
                ?5, 1) = BAD_INDEX
                ?99, 5) = BAD_INDEX
                ?100, 6) = BAD_INDEX
                ?MIN, 0) = BAD_INDEX
                ?MAX, 0) = BAD_INDEX
                ?0, MIN) = BAD_INDEX
                ?0, MAX) = BAD_INDEX
                """.replace("?", call + "(");
    }

    private static final String TWO_CHANNELS = FLAT + "addChannel(false, 500, 200000) = 1\n";

    private static void levels(Edges edges) {
        edges.promise(24, "level", "int level(int line, int channel)");
        edges.sentence("Returns the level of a channel in the latest loop at a line since the start",
                TWO_CHANNELS + """
                set(5, 2) = 1
                start(100) = 5
                step(4) = 4
                level(3, 0) = 198
                level(3, 1) = 99
                step(50) = 5
                # the latest loop was that of the sweep downwards
                level(3, 0) = 311
                level(3, 1) = 155
                level(4, 0) = 248
                start(7) = 5
                level(3, 0) = NONE
                step(1) = 1
                level(0, 0) = 7
                """, FLAT + """
                start(100) = 5
                hold(true) = 0
                step(2) = 2
                level(0, 0) = 126
                abort() = 0
                step(1) = 1
                # a loop of an abort finds no level
                level(0, 0) = 126
                """);
        edges.sentence("`line`: a line", FLAT + DONE + """
                level(-1, 0) = BAD_INDEX
                level(0, 0) = 100
                level(4, 0) = 248
                level(5, 0) = BAD_INDEX
                """);
        edges.sentence("`channel`: a channel", TWO_CHANNELS + DONE + """
                level(0, -1) = BAD_INDEX
                level(0, 0) = 100
                level(0, 1) = 50
                level(0, 2) = BAD_INDEX
                """);
        edges.sentence("Returns the level", """
                setLines(100, 150, 100) = 5
                setPoint(100, 500) = 1
                addChannel(true, 1000, 200000) = 0
                addChannel(false, 0, 200000) = 1
                start(1000) = 5
                step(1) = 1
                level(0, 0) = 1000
                # a level of 0 is not none
                level(0, 1) = 0
                """);
        edges.sentence("BAD_INDEX if there is no such line or channel", "level(0, 0) = BAD_INDEX",
                noSuchPlace("level"));
        edges.sentence("NONE if there was no such loop", FLAT + """
                level(0, 0) = NONE
                start(100) = 5
                level(0, 0) = NONE
                step(1) = 1
                level(0, 0) = 100
                level(1, 0) = NONE
                level(4, 0) = NONE
                """);
    }

    private static void averagedGains(Edges edges) {
        edges.promise(25, "averaged", "int averaged(int line, int channel)");
        edges.sentence("Returns the averaged gain of a channel at a line", TWO_CHANNELS + """
                set(1, 2) = 1
                start(100) = 5
                step(1) = 1
                averaged(0, 0) = 1000
                averaged(0, 1) = 500
                averaged(1, 1) = NONE
                step(50) = 4
                # it is kept when it is started again
                setMode(1, 0, 100, 1, 500) = 1000
                start(100) = 5
                averaged(0, 1) = 500
                step(1) = 1
                averaged(0, 1) = 750
                """);
        edges.sentence("`line`: a line", FLAT + DONE + """
                averaged(-1, 0) = BAD_INDEX
                averaged(0, 0) = 1000
                averaged(4, 0) = 1000
                averaged(5, 0) = BAD_INDEX
                """);
        edges.sentence("`channel`: a channel", TWO_CHANNELS + DONE + """
                averaged(0, -1) = BAD_INDEX
                averaged(0, 0) = 1000
                averaged(0, 1) = 500
                averaged(0, 2) = BAD_INDEX
                """);
        edges.sentence("Returns the averaged gain", FLAT + """
                addChannel(false, 0, 200000) = 1
                start(100) = 5
                step(1) = 1
                averaged(0, 0) = 1000
                # a gain of 0 is not none
                averaged(0, 1) = 0
                """);
        edges.sentence("BAD_INDEX if there is no such line or channel", "averaged(0, 0) = BAD_INDEX",
                noSuchPlace("averaged"));
        edges.sentence("NONE if there is none yet", FLAT + """
                averaged(0, 0) = NONE
                start(100) = 5
                averaged(0, 0) = NONE
                step(1) = 1
                averaged(0, 0) = 1000
                averaged(1, 0) = NONE
                averaged(4, 0) = NONE
                """);
    }

    private static void controlGains(Edges edges) {
        edges.promise(26, "controlGain", "int controlGain(int line)");
        edges.noEdge("Returns the averaged control gain at a line");
        edges.sentence("`line`: a line", FLAT + DONE + """
                controlGain(-1) = BAD_INDEX
                controlGain(0) = 1000
                controlGain(4) = 1000
                controlGain(5) = BAD_INDEX
                """);
        edges.sentence("Returns the averaged control gain", TWO_CHANNELS + """
                set(1, 2) = 1
                start(100) = 5
                step(50) = 5
                controlGain(0) = 1000
                setMode(0, 0, 100, 1, 500) = 1500
                start(100) = 5
                step(1) = 1
                controlGain(0) = 1250
                """, """
                setLines(100, 150, 100) = 5
                setPoint(100, 500) = 1
                addChannel(true, 0, 200000) = 0
                start(100) = 5
                step(1) = 1
                # a gain of 0 is not none
                controlGain(0) = 0
                """);
        edges.sentence("BAD_INDEX if there is no such line", "controlGain(0) = BAD_INDEX",
                noSuchLine("controlGain"));
        edges.sentence("NONE if there is none yet", FLAT + """
                controlGain(0) = NONE
                start(100) = 5
                controlGain(0) = NONE
                step(1) = 1
                controlGain(0) = 1000
                controlGain(1) = NONE
                controlGain(4) = NONE
                """);
    }

    private static void drives(Edges edges) {
        edges.promise(27, "driveAt", "int driveAt(int line)");
        edges.sentence("Returns the drive that was found last for a line as the next line since the "
                + "start (for line 0, ahead of that, the drive with which it was started)", FLAT + """
                set(5, 2) = 1
                start(100) = 5
                driveAt(0) = 100
                step(3) = 3
                driveAt(0) = 100
                driveAt(3) = 198
                step(2) = 2
                # found anew for the way down
                driveAt(3) = 311
                step(3) = 3
                driveAt(0) = 500
                step(1) = 1
                # done: what was found stays
                total(2) = 0
                driveAt(0) = 500
                start(7) = 5
                driveAt(0) = 7
                driveAt(3) = NONE
                """, FLAT + """
                start(100) = 5
                hold(true) = 0
                step(1) = 1
                driveAt(0) = 126
                abort() = 0
                step(1) = 1
                # the drive of an abort is not found for a line
                total(2) = 63
                driveAt(0) = 126
                """);
        edges.sentence("`line`: a line", FLAT + DONE + """
                driveAt(-1) = BAD_INDEX
                driveAt(0) = 100
                driveAt(4) = 248
                driveAt(5) = BAD_INDEX
                """);
        edges.sentence("Returns the drive", FLAT + """
                start(100) = 5
                step(1) = 1
                driveAt(1) = 126
                """);
        edges.sentence("BAD_INDEX if there is no such line", "driveAt(0) = BAD_INDEX",
                noSuchLine("driveAt"));
        edges.sentence("NONE if there is none", FLAT + """
                driveAt(0) = NONE
                start(100) = 5
                driveAt(1) = NONE
                step(4) = 4
                driveAt(4) = 248
                setLines(100, 150, 100) = NOT_POSSIBLE
                step(1) = 1
                setLines(100, 150, 100) = 5
                driveAt(0) = NONE
                driveAt(4) = NONE
                """);
    }

    private static void notchers(Edges edges) {
        edges.promise(28, "notchedBy", "int notchedBy(int line)");
        edges.sentence("Returns the channel by which a line was notched when it was the next line last "
                + "since the start", TWO_CHANNELS + """
                addNotch(0, 100, 121, 90) = 0
                addNotch(1, 121, 121, 40) = 0
                set(5, 2) = 1
                start(100) = 5
                step(2) = 2
                notchedBy(1) = 0
                notchedBy(2) = 1
                step(50) = 7
                # it was the next line last on the way down
                notchedBy(0) = 0
                """, FLAT + """
                addChannel(false, 500, 200000) = 1
                setMode(1, 0, 100, 1, 1500) = 2000
                addNotch(1, 100, 100, 200) = 0
                start(100) = 5
                hold(true) = 0
                step(1) = 1
                notchedBy(0) = 1
                setMode(1, 0, 100, 1, 0) = 500
                step(1) = 1
                # the last time it was not notched
                notchedBy(0) = NONE
                """);
        edges.sentence("`line`: a line", FLAT + """
                addNotch(0, 100, 150, 50) = 0
                set(5, 2) = 1
                start(100) = 5
                step(50) = 9
                notchedBy(-1) = BAD_INDEX
                notchedBy(0) = 0
                notchedBy(4) = 0
                notchedBy(5) = BAD_INDEX
                """);
        edges.sentence("Returns the channel", TWO_CHANNELS + """
                addChannel(false, 500, 200000) = 2
                addChannel(false, 500, 200000) = 3
                addChannel(false, 500, 200000) = 4
                addChannel(false, 500, 200000) = 5
                addNotch(5, 110, 110, 1) = 0
                start(100) = 5
                step(1) = 1
                notchedBy(1) = 5
                """);
        edges.sentence("BAD_INDEX if there is no such line", "notchedBy(0) = BAD_INDEX",
                noSuchLine("notchedBy"));
        edges.sentence("NONE if it was not, or if it was notched by none", FLAT + """
                addNotch(0, 100, 150, 90) = 0
                notchedBy(0) = NONE
                start(100) = 5
                # line 0 has not been the next line
                notchedBy(0) = NONE
                notchedBy(1) = NONE
                step(1) = 1
                notchedBy(0) = NONE
                notchedBy(1) = 0
                notchedBy(2) = NONE
                """, FLAT + """
                start(100) = 5
                step(1) = 1
                # it has been the next line, and was not notched
                notchedBy(1) = NONE
                """);
    }

    /** Lines 10 to 18; the gains of channel 1 have peaks at lines 2 and 6, those of channel 0 none. */
    private static final String TWO_PEAKS = """
            setLines(10, 18, 10) = 9
            setPoint(10, 500) = 1
            addChannel(true, 1000, 200000) = 0
            addChannel(false, 0, 200000) = 1
            setMode(1, 0, 12, 1, 1000) = 1000
            setMode(1, 1, 16, 1, 2000) = 2058
            start(1000) = 9
            """;

    private static void resonances(Edges edges) {
        edges.promise(29, "resonance", "int resonance(int channel, int place)");
        edges.sentence("Returns a line that is a resonance of a channel: a line with an averaged gain "
                + "of the channel that is greater than those of the lines next to it (a line that there "
                + "is not, or that has none, counts as lower)", TWO_PEAKS + """
                resonance(1, 0) = NONE
                step(1) = 1
                # the line next to it has no averaged gain
                resonance(1, 0) = 0
                step(1) = 1
                # now it has a greater one
                resonance(1, 0) = 1
                resonance(1, 1) = NONE
                step(50) = 7
                resonance(1, 0) = 6
                resonance(1, 1) = 2
                resonance(1, 2) = NONE
                # gains that are equal to those next to them
                resonance(0, 0) = NONE
                """, """
                setLines(10, 14, 10) = 5
                setPoint(10, 500) = 1
                addChannel(true, 0, 200000) = 0
                setMode(0, 0, 10, 1, 400) = 400
                setMode(0, 1, 14, 1, 400) = 423
                start(1000) = 5
                step(50) = 5
                # the first line and the last one: there is no line beyond
                resonance(0, 0) = 0
                resonance(0, 1) = 4
                resonance(0, 2) = NONE
                """, """
                setLines(10, 10, 10) = 1
                setPoint(10, 500) = 1
                addChannel(true, 0, 200000) = 0
                start(1000) = 1
                step(1) = 1
                # a single line, with a gain of 0
                averaged(0, 0) = 0
                resonance(0, 0) = 0
                resonance(0, 1) = NONE
                """, """
                setLines(10, 13, 10) = 4
                setPoint(10, 500) = 1
                addChannel(true, 0, 200000) = 0
                setMode(0, 0, 11, 1, 400) = 400
                setMode(0, 1, 12, 1, 400) = 600
                start(1000) = 4
                step(50) = 4
                averaged(1, 0) = 599
                averaged(2, 0) = 599
                # a plateau of two lines is none
                resonance(0, 0) = NONE
                """);
        edges.sentence("Resonances have an order: the one with the greater averaged gain comes first, "
                + "of equal ones the one with the smaller number", """
                setLines(10, 18, 10) = 9
                setPoint(10, 500) = 1
                addChannel(true, 1000, 200000) = 0
                addChannel(false, 0, 200000) = 1
                setMode(1, 0, 11, 1, 500) = 500
                setMode(1, 1, 17, 1, 500) = 513
                setMode(1, 2, 14, 1, 600) = 700
                start(1000) = 9
                step(50) = 9
                averaged(1, 1) = 572
                averaged(4, 1) = 700
                averaged(7, 1) = 572
                resonance(1, 0) = 4
                resonance(1, 1) = 1
                resonance(1, 2) = 7
                resonance(1, 3) = NONE
                """, TWO_PEAKS + """
                step(50) = 9
                resonance(1, 0) = 6
                resonance(1, 1) = 2
                """);
    }

    private static void errorsOfResonances(Edges edges) {
        edges.sentence("`channel`: a channel", TWO_PEAKS + """
                step(50) = 9
                resonance(-1, 0) = BAD_INDEX
                resonance(0, 0) = NONE
                resonance(1, 0) = 6
                resonance(2, 0) = BAD_INDEX
                """);
        edges.sentence("`place`: 0 for the first one", TWO_PEAKS + """
                step(50) = 9
                resonance(1, -1) = BAD_VALUE
                resonance(1, 0) = 6
                resonance(1, 1) = 2
                """);
        edges.sentence("Returns the line", TWO_PEAKS + "step(1) = 1\nresonance(1, 0) = 0", """
                setLines(5, 104, 10) = 100
                setPoint(10, 500) = 1
                addChannel(true, 0, 200000) = 0
                setMode(0, 0, 104, 9, 1000) = 1000
                start(1000) = 100
                step(50) = 50
                step(50) = 50
                resonance(0, 0) = 99
                resonance(0, 99) = NONE
                """);
        edges.sentence("BAD_INDEX if there is no such channel", """
                resonance(0, 0) = BAD_INDEX
                resonance(0, -1) = BAD_INDEX
                """, TWO_PEAKS + """
                resonance(2, 0) = BAD_INDEX
                resonance(2, -1) = BAD_INDEX
                resonance(MIN, 0) = BAD_INDEX
                resonance(MAX, 0) = BAD_INDEX
                """);
        edges.sentence("BAD_VALUE if place is below 0", TWO_PEAKS + """
                resonance(1, -1) = BAD_VALUE
                resonance(1, MIN) = BAD_VALUE
                step(50) = 9
                resonance(1, -1) = BAD_VALUE
                """);
        edges.sentence("NONE if there are fewer resonances", """
                addChannel(true, 0, 200000) = 0
                resonance(0, 0) = NONE
                """, TWO_PEAKS + """
                resonance(1, 0) = NONE
                step(50) = 9
                resonance(1, 1) = 2
                resonance(1, 2) = NONE
                resonance(1, 100) = NONE
                resonance(1, MAX) = NONE
                """);
    }

    private static void totals(Edges edges) {
        edges.promise(30, "total", "int total(int property)");
        edges.noEdge("Returns a number");
        edges.sentence("`property`: 0 the state", FLAT + """
                total(-1) = BAD_VALUE
                total(0) = 0
                start(100) = 5
                total(0) = 1
                step(50) = 5
                total(0) = 5
                """);
        edges.sentence("1 the line (NONE if the state is idle)", "total(1) = NONE", FLAT + """
                total(1) = NONE
                start(100) = 5
                total(1) = 0
                step(2) = 2
                hold(true) = 2
                total(1) = 2
                abort() = 2
                total(1) = 2
                step(50) = 8
                total(0) = 4
                total(1) = 2
                """ + DONE + """
                total(1) = 4
                setLines(100, 150, 100) = 5
                total(1) = NONE
                """);
        edges.sentence("2 the drive", FLAT + """
                total(2) = 0
                start(100) = 5
                total(2) = 100
                step(1) = 1
                total(2) = 126
                step(50) = 4
                total(2) = 0
                """);
        edges.sentence("3 the number of lines", "total(3) = 0", FLAT + "total(3) = 5",
                "setLines(5, 104, 10) = 100\ntotal(3) = 100");
        edges.sentence("4 of points", "total(4) = 0\nsetPoint(1, 1) = 1\nsetPoint(2, 1) = 2\n"
                + "total(4) = 2\nsetPoint(2, 2) = 2\ntotal(4) = 2");
        edges.sentence("5 of channels", "total(5) = 0", FLAT + "total(5) = 1\n"
                + "addChannel(false, 1, 1) = 1\ntotal(5) = 2");
    }

    private static void totalsOfRuns(Edges edges) {
        edges.sentence("6 of finished sweeps since the start", FLAT + """
                total(6) = 0
                set(5, 2) = 1
                start(100) = 5
                step(4) = 4
                total(6) = 0
                step(1) = 1
                total(6) = 1
                step(50) = 4
                total(6) = 2
                start(100) = 5
                total(6) = 0
                """);
        edges.sentence("7 the direction (1 upwards, 0 downwards; 1 ahead of any start)", "total(7) = 1",
                FLAT + """
                total(7) = 1
                set(5, 3) = 1
                start(100) = 5
                total(7) = 1
                step(5) = 5
                total(7) = 0
                step(4) = 4
                total(7) = 1
                """);
        edges.sentence("8 the number of loops since the start (those in the state aborting, too)",
                "total(8) = 0", FLAT + """
                start(100) = 5
                total(8) = 0
                step(1) = 1
                total(8) = 1
                hold(true) = 1
                step(2) = 2
                total(8) = 3
                abort() = 1
                total(8) = 3
                step(1) = 1
                total(8) = 4
                step(50) = 7
                # the loop in which it becomes aborted, too
                total(0) = 4
                total(8) = 11
                start(100) = 5
                total(8) = 0
                step(50) = 5
                # and that in which it becomes done
                total(8) = 5
                """, FLAT + """
                addChannel(false, 1000, 99) = 1
                start(100) = 5
                step(1) = 1
                # and that which aborts
                total(0) = 3
                total(8) = 1
                """);
    }

    private static void totalsOfAborts(Edges edges) {
        String byChannel = FLAT + """
                addChannel(false, 1000, 120) = 1
                start(100) = 5
                step(2) = 2
                total(0) = 3
                """;
        edges.sentence("9 the channel of the abort (NONE without)", "total(9) = NONE",
                FLAT + "start(100) = 5\ntotal(9) = NONE", FLAT + ABORTED + "total(9) = NONE",
                byChannel + """
                total(9) = 1
                step(50) = 7
                total(0) = 4
                total(9) = 1
                start(100) = 5
                total(9) = NONE
                """);
        edges.sentence("10 the line of the abort (NONE without)", "total(10) = NONE",
                FLAT + "start(100) = 5\ntotal(10) = NONE", FLAT + ABORTED + "total(10) = 0",
                FLAT + DONE + "total(10) = NONE", byChannel + """
                total(10) = 1
                step(50) = 7
                total(0) = 4
                total(10) = 1
                start(100) = 5
                total(10) = NONE
                """);
        edges.sentence("11 the reason", "total(11) = 0\nstart(1) = REFUSED\ntotal(11) = 2");
        edges.sentence("12 the number of states in the history", """
                total(12) = 0
                set(0, 0) = 0
                total(12) = 1
                undo() = 0
                total(12) = 0
                6x set(0, 0) = 0
                total(12) = 5
                """);
        edges.sentence("13 the length of the text", """
                total(13) = 0
                append(32) = 1
                total(13) = 1
                clearText() = 1
                total(13) = 0
                """, "type " + "h;".repeat(40) + "\ntotal(13) = 80");
        edges.sentence("14 to 19 the settings 0 to 5", """
                set(0, 2) = 0
                set(1, 3) = 1
                set(2, 4) = 1
                set(3, 5) = 25
                set(4, 16) = 50
                set(5, 7) = 1
                total(14) = 2
                total(15) = 3
                total(16) = 4
                total(17) = 5
                total(18) = 16
                total(19) = 7
                """);
        edges.noEdge("Returns the number");
        edges.sentence("BAD_VALUE if property is out of range", """
                total(-1) = BAD_VALUE
                total(0) = 0
                total(19) = 1
                total(20) = BAD_VALUE
                total(MIN) = BAD_VALUE
                total(MAX) = BAD_VALUE
                """);
    }
}
