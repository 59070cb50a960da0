/** Sentences of promises 1 to 7: a new object; lines, profile, channels, settings. */
final class EdgesOfSetUp {
    private static final String FLAT = Edges.FLAT;
    private static final String DONE = Edges.DONE;
    private static final String ABORTED = Edges.ABORTED;
    private static final String SWEEPING = FLAT + "start(100) = 5\ntotal(0) = 1\n";
    private static final String HOLDING = FLAT + "start(100) = 5\nhold(true) = 0\ntotal(0) = 2\n";
    private static final String ABORTING = FLAT + "start(100) = 5\nabort() = 0\ntotal(0) = 3\n";

    private EdgesOfSetUp() {
    }

    static void tell(Edges edges) {
        newObject(edges);
        lines(edges);
        errorsOfLines(edges);
        points(edges);
        channels(edges);
        modes(edges);
        errorsOfModes(edges);
        notches(edges);
        errorsOfNotches(edges);
        settings(edges);
    }

    /** A script for each of the six states, with rows that must hold in all of them. */
    private static String[] inAnyState(String rows) {
        return new String[] {
            FLAT + rows, SWEEPING + rows, HOLDING + rows, ABORTING + rows,
            FLAT + ABORTED + "total(0) = 4\n" + rows, FLAT + DONE + "total(0) = 5\n" + rows,
        };
    }

    /** A script for each of the three states in which it does not rest. */
    private static String[] whileItDoesNotRest(String rows) {
        return new String[] {SWEEPING + rows, HOLDING + rows, ABORTING + rows};
    }

    private static void newObject(Edges edges) {
        edges.promise(1, "A new object", "ShakerSweep()");
        edges.noEdge("Creates a controller with everything as at first");
        edges.sentence("without lines, points and channels, idle, with the settings as at first", """
                total(0) = 0
                total(1) = NONE
                total(2) = 0
                total(3) = 0
                total(4) = 0
                total(5) = 0
                total(6) = 0
                total(7) = 1
                total(8) = 0
                total(9) = NONE
                total(10) = NONE
                total(11) = 0
                total(14) = 0
                total(15) = 1
                total(16) = 1
                total(17) = 25
                total(18) = 50
                total(19) = 1
                frequency(0) = BAD_INDEX
                target(100) = NONE
                channel(0, 0) = BAD_INDEX
                """);
        edges.sentence("the text, the history and the slots are empty", """
                total(12) = 0
                total(13) = 0
                clearText() = 0
                faultPosition() = NONE
                undo() = NOT_POSSIBLE
                restore(0) = NOT_POSSIBLE
                restore(1) = NOT_POSSIBLE
                """);
    }

    private static void lines(Edges edges) {
        edges.promise(2, "setLines", "int setLines(int low, int high, int rate)");
        edges.sentence("Sets the lines", """
                setLines(100, 150, 100) = 5
                frequency(4) = 146
                setLines(10, 20, 1000) = 2
                frequency(0) = 10
                frequency(1) = 20
                frequency(2) = BAD_INDEX
                total(3) = 2
                """);
        String notched = FLAT + """
                addNotch(0, 100, 110, 90) = 0
                addChannel(false, 1000, 99) = 1
                set(2, 2) = 1
                start(100) = 5
                hold(true) = 0
                step(1) = 1
                addNotch(0, 100, 100, 80) = 1
                step(1) = 1
                abort() = 0
                driveAt(0) = 80
                notchedBy(0) = 0
                channel(0, 4) = 2
                channel(0, 6) = 10
                level(0, 0) = 90
                step(50) = 7
                """;
        edges.sentence("what is forgotten by starting is forgotten", notched + """
                setLines(100, 150, 100) = 5
                level(0, 0) = NONE
                level(0, 1) = NONE
                driveAt(0) = NONE
                notchedBy(0) = NONE
                channel(0, 4) = 0
                channel(0, 5) = 0
                channel(0, 6) = 0
                total(10) = NONE
                # what was set is not
                channel(0, 3) = 2
                total(4) = 1
                total(5) = 2
                total(16) = 2
                """, FLAT + """
                addChannel(false, 1000, 99) = 1
                start(100) = 5
                step(50) = 8
                total(9) = 1
                total(10) = 0
                channel(1, 7) = 1
                setLines(100, 150, 100) = 5
                total(9) = NONE
                total(10) = NONE
                channel(1, 7) = 0
                """, """
                start(1) = REFUSED
                setLines(100, 150, 100) = 5
                # the reason is not forgotten by starting either: it is found anew
                total(11) = 2
                """);
        edges.sentence("and all averaged gains, too", FLAT + """
                addChannel(false, 2000, 200000) = 1
                start(100) = 5
                step(50) = 5
                averaged(0, 0) = 1000
                averaged(4, 1) = 2000
                controlGain(4) = 1000
                resonance(1, 0) = NONE
                setLines(100, 150, 100) = 5
                averaged(0, 0) = NONE
                averaged(0, 1) = NONE
                averaged(4, 0) = NONE
                averaged(4, 1) = NONE
                controlGain(0) = NONE
                controlGain(4) = NONE
                # the gain of line 1 is not known any more
                start(100) = 5
                averaged(1, 1) = NONE
                """, """
                setLines(5, 104, 10) = 100
                setPoint(100, 500) = 1
                addChannel(true, 1000, 200000) = 0
                start(100) = 100
                step(50) = 50
                step(50) = 50
                controlGain(99) = 1000
                setLines(100, 100, 10) = 1
                setLines(5, 104, 10) = 100
                averaged(99, 0) = NONE
                controlGain(99) = NONE
                """);
        edges.sentence("the state becomes idle, and there are no loops and no finished sweeps, and the "
                + "direction is upwards", FLAT + """
                set(5, 2) = 1
                start(100) = 5
                step(50) = 9
                total(0) = 5
                total(1) = 0
                total(6) = 2
                total(7) = 0
                total(8) = 9
                setLines(100, 150, 100) = 5
                total(0) = 0
                total(1) = NONE
                total(6) = 0
                total(7) = 1
                total(8) = 0
                """, FLAT + ABORTED + """
                setLines(100, 150, 100) = 5
                total(0) = 0
                total(1) = NONE
                total(8) = 0
                """, "setLines(5, 5, 10) = 1\ntotal(0) = 0\ntotal(1) = NONE\ntotal(7) = 1");
        edges.sentence("Recorded", """
                setLines(100, 150, 100) = 5
                total(12) = 1
                setLines(10, 20, 1000) = 2
                total(12) = 2
                undo() = 1
                total(3) = 5
                frequency(4) = 146
                undo() = 0
                total(3) = 0
                """, FLAT + DONE + """
                setLines(10, 20, 1000) = 2
                undo() = 4
                total(0) = 5
                total(8) = 5
                level(4, 0) = 248
                averaged(4, 0) = 1000
                """);
    }

    private static void errorsOfLines(Edges edges) {
        edges.sentence("`low`: the lowest frequency, 5 to 1000", """
                setLines(4, 100, 100) = BAD_VALUE
                setLines(5, 5, 100) = 1
                setLines(1000, 1000, 100) = 1
                setLines(1001, 1001, 100) = BAD_VALUE
                setLines(0, 100, 100) = BAD_VALUE
                setLines(-5, 100, 100) = BAD_VALUE
                setLines(MIN, 100, 100) = BAD_VALUE
                setLines(MAX, MAX, 100) = BAD_VALUE
                frequency(0) = 1000
                """);
        edges.sentence("`high`: the highest frequency, low to 2000", """
                setLines(100, 99, 100) = BAD_VALUE
                setLines(100, 100, 100) = 1
                setLines(100, 2000, 1000) = 5
                setLines(100, 2001, 1000) = BAD_VALUE
                setLines(100, MIN, 1000) = BAD_VALUE
                setLines(100, MAX, 1000) = BAD_VALUE
                total(3) = 5
                """);
        edges.sentence("`rate`: 10 to 1000", """
                setLines(10, 20, 9) = BAD_VALUE
                setLines(10, 20, 10) = 11
                setLines(10, 20, 1000) = 2
                setLines(10, 20, 1001) = BAD_VALUE
                setLines(10, 20, 0) = BAD_VALUE
                setLines(10, 20, MIN) = BAD_VALUE
                setLines(10, 20, MAX) = BAD_VALUE
                total(3) = 2
                """);
        edges.sentence("Returns the number of lines", """
                setLines(100, 100, 100) = 1
                total(3) = 1
                setLines(10, 40, 200) = 9
                total(3) = 9
                setLines(5, 104, 10) = 100
                total(3) = 100
                """);
        edges.sentence("BAD_VALUE if an argument is out of range", """
                setLines(4, 100, 100) = BAD_VALUE
                setLines(100, 99, 100) = BAD_VALUE
                setLines(100, 150, 9) = BAD_VALUE
                setLines(MIN, MAX, MAX) = BAD_VALUE
                setLines(MAX, MIN, MIN) = BAD_VALUE
                total(3) = 0
                """);
        edges.sentence("NOT_POSSIBLE if the controller does not rest",
                whileItDoesNotRest("""
                setLines(100, 150, 100) = NOT_POSSIBLE
                setLines(5, 5, 10) = NOT_POSSIBLE
                total(3) = 5
                frequency(4) = 146
                """));
        edges.sentence("FULL if there would be more than 100 lines", """
                setLines(5, 104, 10) = 100
                frequency(99) = 104
                setLines(5, 105, 10) = FULL
                setLines(6, 105, 10) = 100
                setLines(5, 2000, 10) = FULL
                setLines(1000, 2000, 10) = 73
                total(3) = 73
                frequency(72) = 1996
                """);
    }

    private static void points(Edges edges) {
        String eight = """
                setPoint(10, 1) = 1
                setPoint(20, 2) = 2
                setPoint(30, 3) = 3
                setPoint(40, 4) = 4
                setPoint(50, 5) = 5
                setPoint(60, 6) = 6
                setPoint(70, 7) = 7
                setPoint(80, 8) = 8
                """;
        edges.promise(3, "setPoint", "int setPoint(int frequency, int level)");
        edges.sentence("Sets a point of the profile, in place of the one with this frequency if there "
                + "is one", """
                setPoint(100, 50) = 1
                target(100) = 50
                setPoint(100, 60) = 1
                target(100) = 60
                target(1) = 60
                setPoint(101, 70) = 2
                setPoint(100, 40) = 2
                target(100) = 40
                target(101) = 70
                """, eight + """
                setPoint(10, 11) = 8
                setPoint(80, 88) = 8
                setPoint(40, 44) = 8
                target(10) = 11
                target(80) = 88
                target(40) = 44
                target(50) = 5
                """);
        edges.sentence("Recorded", """
                setPoint(100, 50) = 1
                total(12) = 1
                setPoint(100, 60) = 1
                total(12) = 2
                setPoint(90, 70) = 2
                undo() = 2
                total(4) = 1
                target(90) = 60
                undo() = 1
                target(100) = 50
                undo() = 0
                total(4) = 0
                target(100) = NONE
                """);
        edges.sentence("`frequency`: 1 to 2000", """
                setPoint(0, 5) = BAD_VALUE
                setPoint(1, 5) = 1
                setPoint(2000, 6) = 2
                setPoint(2001, 5) = BAD_VALUE
                setPoint(-1, 5) = BAD_VALUE
                setPoint(MIN, 5) = BAD_VALUE
                setPoint(MAX, 5) = BAD_VALUE
                total(4) = 2
                """);
        edges.sentence("`level`: 1 to 50000", """
                setPoint(5, 0) = BAD_VALUE
                setPoint(5, 1) = 1
                target(5) = 1
                setPoint(5, 50000) = 1
                target(5) = 50000
                setPoint(5, 50001) = BAD_VALUE
                setPoint(5, MIN) = BAD_VALUE
                setPoint(5, MAX) = BAD_VALUE
                target(5) = 50000
                """);
        edges.sentence("Returns the number of points", eight + "total(4) = 8\nsetPoint(10, 5) = 8");
        edges.sentence("BAD_VALUE if an argument is out of range", """
                setPoint(0, 1) = BAD_VALUE
                setPoint(1, 0) = BAD_VALUE
                setPoint(MAX, MIN) = BAD_VALUE
                total(4) = 0
                """);
        edges.sentence("NOT_POSSIBLE if the controller does not rest", whileItDoesNotRest("""
                setPoint(100, 400) = NOT_POSSIBLE
                setPoint(101, 400) = NOT_POSSIBLE
                total(4) = 1
                target(100) = 500
                """));
        edges.sentence("FULL if there are 8 points and none has this frequency", eight + """
                setPoint(9, 1) = FULL
                setPoint(45, 1) = FULL
                setPoint(81, 1) = FULL
                setPoint(45, 1) = FULL
                setPoint(80, 9) = 8
                target(80) = 9
                undo() = 4
                undo() = 3
                setPoint(45, 1) = 8
                target(45) = 1
                """);
    }

    private static void channels(Edges edges) {
        edges.promise(4, "addChannel", "int addChannel(boolean control, int gain, int abort)");
        // A channel has nothing of one that stood in its place and was taken back.
        edges.sentence("Adds a channel", """
                save(0) = 0
                addChannel(true, 3, 4) = 0
                setMode(0, 0, 10, 5, 100) = 103
                setMode(0, 1, 10, 5, 100) = 203
                setMode(0, 2, 20, 5, 100) = 143
                addNotch(0, 1, 9, 8) = 0
                restore(0) = 0
                total(5) = 0
                addChannel(false, 9, 7) = 0
                total(5) = 1
                channel(0, 0) = 0
                channel(0, 1) = 9
                channel(0, 2) = 7
                channel(0, 3) = 0
                gain(0, 10) = 9
                gain(0, 20) = 9
                limit(0, 5) = NONE
                """, FLAT + DONE + """
                addChannel(true, 2000, 1) = 1
                level(0, 0) = 100
                level(0, 1) = NONE
                averaged(0, 1) = NONE
                controlGain(0) = 1000
                resonance(1, 0) = NONE
                """);
        edges.sentence("Recorded", """
                addChannel(true, 3, 4) = 0
                total(12) = 1
                addChannel(true, 3, 4) = 1
                total(12) = 2
                undo() = 1
                total(5) = 1
                channel(1, 0) = BAD_INDEX
                undo() = 0
                total(5) = 0
                """);
        edges.sentence("`control`: whether it is a control channel, otherwise it is a monitor channel",
                """
                setLines(100, 150, 100) = 5
                setPoint(100, 500) = 1
                addChannel(false, 1000, 200000) = 0
                channel(0, 0) = 0
                start(1) = REFUSED
                total(11) = 4
                addChannel(true, 1000, 200000) = 1
                channel(1, 0) = 1
                start(1) = 5
                """);
        edges.sentence("`gain`: its base gain, 0 to 5000", """
                addChannel(true, -1, 1) = BAD_VALUE
                addChannel(true, 0, 1) = 0
                channel(0, 1) = 0
                gain(0, 1) = 0
                addChannel(true, 5000, 1) = 1
                gain(1, 2000) = 5000
                addChannel(true, 5001, 1) = BAD_VALUE
                addChannel(true, MIN, 1) = BAD_VALUE
                addChannel(true, MAX, 1) = BAD_VALUE
                total(5) = 2
                """);
        edges.sentence("`abort`: its abort limit, 1 to 200000", """
                addChannel(true, 0, 0) = BAD_VALUE
                addChannel(true, 0, 1) = 0
                channel(0, 2) = 1
                addChannel(true, 0, 200000) = 1
                channel(1, 2) = 200000
                addChannel(true, 0, 200001) = BAD_VALUE
                addChannel(true, 0, MIN) = BAD_VALUE
                addChannel(true, 0, MAX) = BAD_VALUE
                total(5) = 2
                """);
        String six = """
                addChannel(true, 1, 1) = 0
                addChannel(false, 1, 1) = 1
                addChannel(true, 1, 1) = 2
                addChannel(false, 1, 1) = 3
                addChannel(true, 1, 1) = 4
                addChannel(false, 1, 1) = 5
                """;
        edges.sentence("Returns its number", six + "channel(5, 1) = 1\nchannel(6, 1) = BAD_INDEX");
        edges.sentence("BAD_VALUE if gain or abort is out of range", """
                addChannel(true, -1, 1) = BAD_VALUE
                addChannel(false, 1, 0) = BAD_VALUE
                addChannel(true, MAX, MIN) = BAD_VALUE
                total(5) = 0
                """);
        edges.sentence("NOT_POSSIBLE if the controller does not rest", whileItDoesNotRest("""
                addChannel(true, 1000, 1) = NOT_POSSIBLE
                addChannel(false, 1000, 1) = NOT_POSSIBLE
                total(5) = 1
                """));
        edges.sentence("FULL if there are 6 channels", six + """
                addChannel(true, 1, 1) = FULL
                addChannel(false, 1, 1) = FULL
                total(5) = 6
                undo() = 4
                addChannel(true, 8, 1) = 5
                channel(5, 1) = 8
                addChannel(true, 1, 1) = FULL
                """);
    }

    private static void modes(Edges edges) {
        edges.promise(5, "setMode", "int setMode(int channel, int mode, int centre, int width, int peak)");
        edges.sentence("Sets a mode of a channel, in any state", inAnyState("""
                setMode(0, 0, 100, 1, 10) = 1010
                setMode(0, 0, 100, 1, 20) = 1020
                setMode(0, 2, 100, 1, 5) = 1025
                gain(0, 100) = 1025
                """));
        edges.sentence("Recorded", """
                addChannel(true, 3, 4) = 0
                setMode(0, 0, 100, 1, 10) = 13
                total(12) = 2
                setMode(0, 0, 100, 1, 10) = 13
                total(12) = 3
                setMode(0, 0, 50, 9, 7) = 10
                setMode(0, 1, 100, 9, 7) = 10
                setMode(0, 2, 100, 9, 7) = 17
                undo() = 4
                gain(0, 100) = 10
                undo() = 3
                gain(0, 100) = 3
                gain(0, 50) = 10
                undo() = 2
                gain(0, 100) = 13
                gain(0, 50) = 3
                """);
    }

    private static void errorsOfModes(Edges edges) {
        String channel = "addChannel(true, 3, 4) = 0\n";
        edges.sentence("`channel`: a channel", """
                setMode(0, 0, 1, 1, 1) = BAD_INDEX
                addChannel(true, 3, 4) = 0
                addChannel(true, 5, 6) = 1
                setMode(-1, 0, 1, 1, 1) = BAD_INDEX
                setMode(0, 0, 1, 1, 1) = 4
                setMode(1, 0, 1, 1, 2) = 7
                setMode(2, 0, 1, 1, 1) = BAD_INDEX
                setMode(6, 0, 1, 1, 1) = BAD_INDEX
                setMode(MIN, 0, 1, 1, 1) = BAD_INDEX
                setMode(MAX, 0, 1, 1, 1) = BAD_INDEX
                gain(0, 1) = 4
                gain(1, 1) = 7
                """);
        edges.sentence("`mode`: 0 to 2", channel + """
                setMode(0, -1, 1, 1, 1) = BAD_INDEX
                setMode(0, 0, 1, 1, 1) = 4
                setMode(0, 2, 1, 1, 1) = 5
                setMode(0, 3, 1, 1, 1) = BAD_INDEX
                setMode(0, MIN, 1, 1, 1) = BAD_INDEX
                setMode(0, MAX, 1, 1, 1) = BAD_INDEX
                gain(0, 1) = 5
                """);
        edges.sentence("`centre`: 1 to 2000", channel + """
                setMode(0, 0, 0, 1, 1) = BAD_VALUE
                setMode(0, 0, 1, 1, 1) = 4
                gain(0, 1) = 4
                setMode(0, 0, 2000, 1, 1) = 4
                gain(0, 1) = 3
                gain(0, 2000) = 4
                setMode(0, 0, 2001, 1, 1) = BAD_VALUE
                setMode(0, 0, MIN, 1, 1) = BAD_VALUE
                setMode(0, 0, MAX, 1, 1) = BAD_VALUE
                gain(0, 2000) = 4
                """);
        // With a width of 1, 8 hertz beside the centre 65 / 65 is left; with 500, nearly all.
        edges.sentence("`width`: 1 to 500", channel + """
                setMode(0, 0, 100, 0, 65) = BAD_VALUE
                setMode(0, 0, 100, 1, 65) = 68
                gain(0, 108) = 4
                setMode(0, 0, 100, 500, 65) = 68
                gain(0, 108) = 67
                setMode(0, 0, 100, 501, 65) = BAD_VALUE
                setMode(0, 0, 100, -1, 65) = BAD_VALUE
                setMode(0, 0, 100, MIN, 65) = BAD_VALUE
                setMode(0, 0, 100, MAX, 65) = BAD_VALUE
                gain(0, 108) = 67
                """);
        edges.sentence("`peak`: 0 to 50000", channel + """
                setMode(0, 0, 100, 1, -1) = BAD_VALUE
                setMode(0, 0, 100, 1, 50000) = 50003
                setMode(0, 0, 100, 1, 0) = 3
                setMode(0, 0, 100, 1, 50001) = BAD_VALUE
                setMode(0, 0, 100, 1, MIN) = BAD_VALUE
                setMode(0, 0, 100, 1, MAX) = BAD_VALUE
                gain(0, 100) = 3
                """);
        edges.sentence("Returns the gain of the channel at the centre then", channel + """
                setMode(0, 0, 100, 10, 80) = 83
                # with 80 * 100 / (100 + 100) of the first mode
                setMode(0, 1, 110, 1, 200) = 243
                setMode(0, 1, 110, 1, 0) = 43
                setMode(0, 0, 100, 10, 0) = 3
                """);
        edges.sentence("BAD_INDEX if there is no such channel or mode", channel + """
                setMode(1, 0, 1, 1, 1) = BAD_INDEX
                setMode(0, 3, 1, 1, 1) = BAD_INDEX
                setMode(1, 3, 1, 1, 1) = BAD_INDEX
                setMode(1, 0, 0, 0, -1) = BAD_INDEX
                setMode(0, 3, 0, 0, -1) = BAD_INDEX
                gain(0, 1) = 3
                """);
        edges.sentence("BAD_VALUE if another argument is out of range", channel + """
                setMode(0, 0, 0, 1, 1) = BAD_VALUE
                setMode(0, 0, 1, 0, 1) = BAD_VALUE
                setMode(0, 0, 1, 1, -1) = BAD_VALUE
                setMode(0, 2, 2001, 501, 50001) = BAD_VALUE
                gain(0, 1) = 3
                total(12) = 1
                """);
    }

    private static void notches(Edges edges) {
        edges.promise(6, "addNotch", "int addNotch(int channel, int from, int to, int limit)");
        edges.sentence("Adds a notch to a channel, in any state", inAnyState("""
                addNotch(0, 100, 200, 70) = 0
                limit(0, 100) = 70
                addNotch(0, 150, 150, 60) = 1
                limit(0, 150) = 60
                limit(0, 151) = 70
                """));
        edges.sentence("Recorded", """
                addChannel(true, 3, 4) = 0
                addNotch(0, 100, 200, 70) = 0
                total(12) = 2
                addNotch(0, 100, 200, 70) = 1
                total(12) = 3
                addNotch(0, 100, 200, 60) = 2
                undo() = 3
                limit(0, 100) = 70
                undo() = 2
                channel(0, 3) = 1
                undo() = 1
                channel(0, 3) = 0
                limit(0, 100) = NONE
                """);
    }

    private static void errorsOfNotches(Edges edges) {
        String channel = "addChannel(true, 3, 4) = 0\n";
        String four = channel + """
                addNotch(0, 1, 2000, 200000) = 0
                addNotch(0, 20, 20, 1) = 1
                addNotch(0, 20, 20, 1) = 2
                addNotch(0, 20, 30, 7) = 3
                """;
        edges.sentence("`channel`: a channel", """
                addNotch(0, 1, 1, 1) = BAD_INDEX
                addChannel(true, 3, 4) = 0
                addChannel(true, 3, 4) = 1
                addNotch(-1, 1, 1, 1) = BAD_INDEX
                addNotch(0, 1, 1, 1) = 0
                addNotch(1, 1, 1, 2) = 0
                addNotch(2, 1, 1, 1) = BAD_INDEX
                addNotch(6, 1, 1, 1) = BAD_INDEX
                addNotch(MIN, 1, 1, 1) = BAD_INDEX
                addNotch(MAX, 1, 1, 1) = BAD_INDEX
                limit(0, 1) = 1
                limit(1, 1) = 2
                """);
        edges.sentence("`from`: 1 to 2000", channel + """
                addNotch(0, 0, 5, 1) = BAD_VALUE
                addNotch(0, 1, 5, 1) = 0
                addNotch(0, 2000, 2000, 1) = 1
                addNotch(0, 2001, 2001, 1) = BAD_VALUE
                addNotch(0, MIN, 5, 1) = BAD_VALUE
                addNotch(0, MAX, MAX, 1) = BAD_VALUE
                channel(0, 3) = 2
                """);
        edges.sentence("`to`: from to 2000", channel + """
                addNotch(0, 20, 19, 1) = BAD_VALUE
                addNotch(0, 20, 20, 1) = 0
                addNotch(0, 20, 2000, 1) = 1
                addNotch(0, 20, 2001, 1) = BAD_VALUE
                addNotch(0, 20, MIN, 1) = BAD_VALUE
                addNotch(0, 20, MAX, 1) = BAD_VALUE
                channel(0, 3) = 2
                """);
        edges.sentence("`limit`: 1 to 200000", channel + """
                addNotch(0, 20, 20, 0) = BAD_VALUE
                addNotch(0, 20, 20, 200000) = 0
                limit(0, 20) = 200000
                addNotch(0, 20, 20, 1) = 1
                limit(0, 20) = 1
                addNotch(0, 20, 20, 200001) = BAD_VALUE
                addNotch(0, 20, 20, MIN) = BAD_VALUE
                addNotch(0, 20, 20, MAX) = BAD_VALUE
                channel(0, 3) = 2
                """);
        edges.sentence("Returns the number of the notch", four);
        edges.sentence("BAD_INDEX if there is no such channel", channel + """
                addNotch(1, 1, 1, 1) = BAD_INDEX
                addNotch(-1, 1, 1, 1) = BAD_INDEX
                addNotch(1, 0, 0, 0) = BAD_INDEX
                channel(0, 3) = 0
                """);
        edges.sentence("BAD_VALUE if another argument is out of range", channel + """
                addNotch(0, 0, 1, 1) = BAD_VALUE
                addNotch(0, 2, 1, 1) = BAD_VALUE
                addNotch(0, 1, 1, 0) = BAD_VALUE
                addNotch(0, MAX, MIN, MIN) = BAD_VALUE
                channel(0, 3) = 0
                total(12) = 1
                """);
        edges.sentence("FULL if the channel has 4 notches", four + """
                addNotch(0, 1, 1, 1) = FULL
                channel(0, 3) = 4
                # another channel has room
                addChannel(true, 3, 4) = 1
                addNotch(1, 1, 1, 1) = 0
                addNotch(0, 1, 1, 1) = FULL
                undo() = 4
                undo() = 3
                undo() = 2
                addNotch(0, 1, 1, 5) = 3
                limit(0, 1) = 5
                """);
    }

    private static void settings(Edges edges) {
        edges.promise(7, "set", "int set(int setting, int value)");
        edges.sentence("Sets a setting, in any state", inAnyState("""
                set(1, 8) = 1
                total(15) = 8
                set(5, 9) = 1
                total(19) = 9
                """));
        edges.sentence("Recorded", """
                set(5, 1) = 1
                total(12) = 1
                set(5, 9) = 1
                total(12) = 2
                undo() = 1
                total(19) = 1
                set(0, 2) = 0
                set(1, 3) = 1
                set(2, 4) = 1
                set(3, 5) = 25
                undo() = 4
                total(17) = 25
                undo() = 3
                total(16) = 1
                undo() = 2
                total(15) = 1
                undo() = 1
                total(14) = 0
                """, FLAT + """
                set(1, 3) = 1
                set(1, 4) = 3
                undo() = 4
                total(15) = 3
                total(3) = 5
                """);
        edges.sentence("`setting`: 0 to 5", """
                set(-1, 1) = BAD_INDEX
                set(0, 1) = 0
                set(5, 1) = 1
                set(6, 1) = BAD_INDEX
                set(MIN, 1) = BAD_INDEX
                set(MAX, 1) = BAD_INDEX
                total(12) = 2
                """);
        edges.sentence("`value`: a value of this setting", """
                set(0, 0) = 0
                set(0, 2) = 0
                set(1, 1) = 1
                set(1, 8) = 1
                set(2, 1) = 1
                set(2, 5) = 1
                set(3, 1) = 25
                set(3, 100) = 1
                set(4, 10) = 50
                set(4, 90) = 10
                set(5, 1) = 1
                set(5, 9) = 1
                """);
        edges.sentence("Returns the value before", """
                set(4, 90) = 50
                set(4, 90) = 90
                set(4, 10) = 90
                set(0, 2) = 0
                set(0, 1) = 2
                """);
        edges.sentence("BAD_INDEX if there is no such setting", """
                set(-1, 1) = BAD_INDEX
                set(6, 1) = BAD_INDEX
                set(6, MIN) = BAD_INDEX
                set(-1, MAX) = BAD_INDEX
                """);
        edges.sentence("BAD_VALUE if value is out of its range", """
                set(0, -1) = BAD_VALUE
                set(0, 3) = BAD_VALUE
                set(1, 0) = BAD_VALUE
                set(1, 9) = BAD_VALUE
                set(2, 0) = BAD_VALUE
                set(2, 6) = BAD_VALUE
                set(3, 0) = BAD_VALUE
                set(3, 101) = BAD_VALUE
                set(4, 9) = BAD_VALUE
                set(4, 91) = BAD_VALUE
                set(5, 0) = BAD_VALUE
                set(5, 10) = BAD_VALUE
                set(3, MIN) = BAD_VALUE
                set(3, MAX) = BAD_VALUE
                total(12) = 0
                total(17) = 25
                """);
    }
}
