/** Sentences of promises 8 to 11: running. */
final class EdgesOfRunning {
    private static final String FLAT = Edges.FLAT;
    private static final String DONE = Edges.DONE;
    private static final String ABORTED = Edges.ABORTED;

    private EdgesOfRunning() {
    }

    static void tell(Edges edges) {
        starting(edges);
        stepping(edges);
        errorsOfStepping(edges);
        holding(edges);
        errorsOfHolding(edges);
        aborting(edges);
    }

    private static void starting(Edges edges) {
        edges.promise(8, "start", "int start(int drive)");
        edges.sentence("Starts", FLAT + """
                start(100) = 5
                total(0) = 1
                total(1) = 0
                total(2) = 100
                total(7) = 1
                total(8) = 0
                driveAt(0) = 100
                driveAt(1) = NONE
                notchedBy(0) = NONE
                level(0, 0) = NONE
                """);
        edges.sentence("Recorded", FLAT + """
                start(100) = 5
                total(12) = 4
                undo() = 3
                total(0) = 0
                total(2) = 0
                driveAt(0) = NONE
                # what starting forgets comes back, too
                """ + DONE + """
                level(4, 0) = 248
                start(7) = 5
                level(4, 0) = NONE
                undo() = 4
                level(4, 0) = 248
                total(8) = 5
                """, """
                start(1) = REFUSED
                total(12) = 0
                """);
        edges.sentence("`drive`: 1 to 1000", FLAT + """
                start(0) = BAD_VALUE
                start(1001) = BAD_VALUE
                start(-1) = BAD_VALUE
                start(MIN) = BAD_VALUE
                start(MAX) = BAD_VALUE
                total(0) = 0
                start(1) = 5
                total(2) = 1
                undo() = 3
                start(1000) = 5
                total(2) = 1000
                """);
        edges.sentence("Returns the number of lines", FLAT + "start(100) = 5\nundo() = 3\n" + """
                setLines(100, 100, 100) = 1
                start(100) = 1
                undo() = 4
                setLines(5, 104, 10) = 100
                start(100) = 100
                """);
        edges.sentence("BAD_VALUE if drive is out of range", """
                start(0) = BAD_VALUE
                start(1001) = BAD_VALUE
                total(11) = 0
                """, FLAT + """
                start(100) = 5
                start(1001) = BAD_VALUE
                # such a start was not tried: there is no reason
                total(11) = 0
                start(100) = REFUSED
                start(0) = BAD_VALUE
                total(11) = 1
                """);
        edges.sentence("REFUSED for the reasons 1 to 4", """
                start(1) = REFUSED
                total(11) = 2
                setLines(100, 150, 100) = 5
                start(1) = REFUSED
                total(11) = 3
                setPoint(100, 500) = 1
                start(1) = REFUSED
                total(11) = 4
                addChannel(true, 1000, 200000) = 0
                start(1) = 5
                start(1) = REFUSED
                total(11) = 1
                total(0) = 1
                """);
    }

    private static void stepping(Edges edges) {
        edges.promise(9, "step", "int step(int loops)");
        edges.sentence("Does loops, one after the other, until the controller rests or as many are "
                + "done", FLAT + """
                start(100) = 5
                step(2) = 2
                total(1) = 2
                total(8) = 2
                step(2) = 2
                total(1) = 4
                # the last loop of five
                step(2) = 1
                total(0) = 5
                total(8) = 5
                """, FLAT + """
                start(100) = 5
                step(5) = 5
                total(0) = 5
                """, FLAT + """
                start(100) = 5
                abort() = 0
                step(8) = 7
                total(0) = 4
                """, FLAT + """
                addChannel(false, 1000, 99) = 1
                start(100) = 5
                # on from sweeping into aborting
                step(2) = 2
                total(2) = 50
                step(50) = 6
                """, FLAT + """
                start(100) = 5
                hold(true) = 0
                step(50) = 50
                total(0) = 2
                total(8) = 50
                """);
        edges.sentence("Recorded", FLAT + """
                start(100) = 5
                step(3) = 3
                total(12) = 5
                # as one state, however many loops
                undo() = 4
                total(8) = 0
                total(1) = 0
                total(2) = 100
                level(0, 0) = NONE
                averaged(0, 0) = NONE
                controlGain(0) = NONE
                driveAt(1) = NONE
                step(3) = 3
                total(2) = 198
                """);
    }

    private static void errorsOfStepping(Edges edges) {
        edges.sentence("`loops`: 1 to 50", FLAT + """
                start(100) = 5
                hold(true) = 0
                step(0) = BAD_VALUE
                step(51) = BAD_VALUE
                step(-1) = BAD_VALUE
                step(MIN) = BAD_VALUE
                step(MAX) = BAD_VALUE
                total(8) = 0
                step(1) = 1
                step(50) = 50
                total(8) = 51
                """);
        edges.sentence("Returns the number of loops that were done", FLAT + """
                start(100) = 5
                step(1) = 1
                step(3) = 3
                step(3) = 1
                """);
        edges.sentence("BAD_VALUE if loops is out of range", """
                step(0) = BAD_VALUE
                step(51) = BAD_VALUE
                step(1) = NOT_POSSIBLE
                """);
        edges.sentence("NOT_POSSIBLE if the controller rests", FLAT + "step(1) = NOT_POSSIBLE",
                FLAT + ABORTED + "step(50) = NOT_POSSIBLE\ntotal(8) = 7",
                FLAT + DONE + "step(1) = NOT_POSSIBLE\ntotal(8) = 5");
    }

    private static void holding(Edges edges) {
        edges.promise(10, "hold", "int hold(boolean on)");
        edges.sentence("Holds the sweep at its line (the state becomes holding), or lets it go on (the "
                + "state becomes sweeping)", FLAT + """
                set(5, 2) = 1
                start(100) = 5
                step(2) = 2
                hold(true) = 2
                total(0) = 2
                total(8) = 2
                step(3) = 3
                total(1) = 2
                hold(false) = 2
                total(0) = 1
                total(2) = 311
                step(1) = 1
                total(1) = 3
                step(2) = 2
                # downwards it goes on downwards
                total(7) = 0
                hold(true) = 3
                step(1) = 1
                hold(false) = 3
                step(1) = 1
                total(1) = 2
                """);
        edges.sentence("Recorded", FLAT + """
                start(100) = 5
                hold(true) = 0
                total(12) = 5
                undo() = 4
                total(0) = 1
                hold(true) = 0
                hold(false) = 0
                undo() = 4
                total(0) = 2
                """);
    }

    private static void errorsOfHolding(Edges edges) {
        edges.sentence("`on`: whether it is held", FLAT + """
                start(100) = 5
                hold(true) = 0
                total(0) = 2
                hold(false) = 0
                total(0) = 1
                """);
        edges.sentence("Returns the line", FLAT + """
                start(100) = 5
                hold(true) = 0
                hold(false) = 0
                step(4) = 4
                hold(true) = 4
                hold(false) = 4
                """);
        edges.sentence("NOT_POSSIBLE if the state is not sweeping (with on), or not holding (without)",
                FLAT + """
                hold(true) = NOT_POSSIBLE
                hold(false) = NOT_POSSIBLE
                start(100) = 5
                hold(false) = NOT_POSSIBLE
                hold(true) = 0
                hold(true) = NOT_POSSIBLE
                total(0) = 2
                abort() = 0
                hold(true) = NOT_POSSIBLE
                hold(false) = NOT_POSSIBLE
                total(0) = 3
                step(50) = 7
                total(0) = 4
                hold(true) = NOT_POSSIBLE
                hold(false) = NOT_POSSIBLE
                """ + DONE + """
                hold(true) = NOT_POSSIBLE
                hold(false) = NOT_POSSIBLE
                total(0) = 5
                """);
    }

    private static void aborting(Edges edges) {
        edges.promise(11, "abort", "int abort()");
        edges.sentence("Aborts by hand: the state becomes aborting; the line is kept as that of the "
                + "abort, without a channel", FLAT + """
                start(100) = 5
                abort() = 0
                total(0) = 3
                total(2) = 100
                total(8) = 0
                total(9) = NONE
                total(10) = 0
                """, FLAT + """
                addChannel(false, 1000, 99) = 1
                start(100) = 5
                step(50) = 8
                total(9) = 1
                # the channel of the abort before it is not kept
                start(10) = 5
                step(4) = 4
                hold(true) = 4
                abort() = 4
                total(0) = 3
                total(9) = NONE
                total(10) = 4
                step(50) = 5
                total(0) = 4
                total(9) = NONE
                total(10) = 4
                """);
        edges.sentence("Recorded", FLAT + """
                start(100) = 5
                abort() = 0
                total(12) = 5
                undo() = 4
                total(0) = 1
                total(10) = NONE
                hold(true) = 0
                abort() = 0
                undo() = 4
                total(0) = 2
                """);
        edges.sentence("Returns the line", FLAT + """
                start(100) = 5
                step(4) = 4
                abort() = 4
                """);
        edges.sentence("NOT_POSSIBLE if the controller rests or is aborting",
                FLAT + "abort() = NOT_POSSIBLE\ntotal(10) = NONE\n" + DONE + """
                abort() = NOT_POSSIBLE
                total(0) = 5
                total(10) = NONE
                start(100) = 5
                hold(true) = 0
                # it neither rests nor is aborting
                abort() = 0
                abort() = NOT_POSSIBLE
                step(6) = 6
                abort() = NOT_POSSIBLE
                step(1) = 1
                abort() = NOT_POSSIBLE
                total(0) = 4
                """);
    }
}
