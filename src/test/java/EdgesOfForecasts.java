/** Sentences of promises 31 to 33, forecasts, and of "Not promised". */
final class EdgesOfForecasts {
    private static final String FLAT = Edges.FLAT;
    private static final String DONE = Edges.DONE;
    private static final String ABORTED = Edges.ABORTED;

    /** Levels of 100, 126, 158, 198, 248; channel 2 aborts at line 2, ahead of channel 3. */
    private static final String ABORTS_AT_LINE_2 = FLAT + """
            addChannel(false, 1000, 200) = 1
            addChannel(false, 1000, 150) = 2
            addChannel(false, 1000, 150) = 3
            start(100) = 5
            """;

    /** While it is held, the level is 1060 in loop 299, 1071 in loop 300, and 1082 in loop 301. */
    private static final String RISES_SLOWLY = """
            setLines(100, 150, 100) = 5
            setPoint(100, 50000) = 1
            addChannel(true, 1000, 200000) = 0
            addChannel(false, 1000, %d) = 1
            set(3, 1) = 25
            start(1) = 5
            hold(true) = 0
            """;

    private EdgesOfForecasts() {
    }

    static void tell(Edges edges) {
        loopsLeft(edges);
        wouldAbort(edges);
        errorsOfWouldAbort(edges);
        highest(edges);
        errorsOfHighest(edges);
        notPromised(edges);
    }

    private static void loopsLeft(Edges edges) {
        edges.promise(31, "loopsLeft", "int loopsLeft()");
        edges.sentence("Tells how many loops there would be until the controller rests, if only loops "
                + "are done", FLAT + """
                set(5, 3) = 1
                start(100) = 5
                loopsLeft() = 13
                step(6) = 6
                loopsLeft() = 7
                step(50) = 7
                total(0) = 5
                """, FLAT + """
                start(100) = 5
                abort() = 0
                loopsLeft() = 7
                set(4, 10) = 50
                loopsLeft() = 3
                step(50) = 3
                total(0) = 4
                """, ABORTS_AT_LINE_2 + """
                # three loops, and then 158 goes down to 0 in eight
                loopsLeft() = 11
                step(50) = 11
                total(0) = 4
                """);
        edges.sentence("Returns the number, 0 if it rests now", "loopsLeft() = 0",
                FLAT + "loopsLeft() = 0", FLAT + DONE + "loopsLeft() = 0",
                FLAT + ABORTED + "loopsLeft() = 0", FLAT + """
                start(100) = 5
                step(4) = 4
                loopsLeft() = 1
                """);
        edges.sentence("NONE if it would not rest within 500 loops", """
                setLines(5, 104, 10) = 100
                setPoint(100, 500) = 1
                addChannel(true, 1000, 200000) = 0
                set(5, 6) = 1
                start(500) = 100
                # 100 + 5 * 99 is 595
                step(50) = 50
                step(44) = 44
                loopsLeft() = NONE
                step(1) = 1
                loopsLeft() = 500
                step(1) = 1
                loopsLeft() = 499
                """, FLAT + """
                start(100) = 5
                hold(true) = 0
                loopsLeft() = NONE
                """);
    }

    private static void wouldAbort(Edges edges) {
        edges.promise(32, "wouldAbort", "int wouldAbort(int loops)");
        edges.sentence("Tells the channel by which the controller would abort, if only loops are done",
                ABORTS_AT_LINE_2 + """
                wouldAbort(300) = 2
                set(2, 2) = 1
                # in the fourth loop
                wouldAbort(300) = 2
                step(4) = 4
                total(9) = 2
                """, ABORTS_AT_LINE_2 + """
                hold(true) = 0
                # while it is held at line 0 the drive rises, too
                wouldAbort(300) = 2
                total(8) = 0
                """, FLAT + """
                addChannel(false, 0, 1000) = 1
                setMode(1, 0, 121, 1, 50000) = 50000
                start(100) = 5
                wouldAbort(300) = 1
                # held at line 0, it does not come to line 2
                hold(true) = 0
                wouldAbort(300) = NONE
                """, """
                setLines(100, 150, 100) = 5
                setPoint(100, 500) = 1
                addChannel(true, 1000, 99) = 0
                start(100) = 5
                wouldAbort(1) = 0
                """);
        edges.sentence("`loops`: 1 to 300", ABORTS_AT_LINE_2 + """
                wouldAbort(0) = BAD_VALUE
                wouldAbort(1) = NONE
                wouldAbort(300) = 2
                wouldAbort(301) = BAD_VALUE
                wouldAbort(-1) = BAD_VALUE
                wouldAbort(MIN) = BAD_VALUE
                wouldAbort(MAX) = BAD_VALUE
                """);
    }

    private static void errorsOfWouldAbort(Edges edges) {
        edges.sentence("Returns the channel", ABORTS_AT_LINE_2 + "wouldAbort(3) = 2");
        edges.sentence("BAD_VALUE if loops is out of range", """
                wouldAbort(0) = BAD_VALUE
                wouldAbort(301) = BAD_VALUE
                """, FLAT + """
                start(100) = 5
                wouldAbort(0) = BAD_VALUE
                wouldAbort(301) = BAD_VALUE
                abort() = 0
                wouldAbort(0) = BAD_VALUE
                wouldAbort(301) = BAD_VALUE
                """);
        edges.sentence("NONE if it would not abort by a channel within so many loops (or rests or is "
                + "aborting now)", ABORTS_AT_LINE_2 + """
                wouldAbort(2) = NONE
                wouldAbort(3) = 2
                step(3) = 3
                # it is aborting now, by that channel
                total(9) = 2
                wouldAbort(300) = NONE
                step(50) = 8
                # and rests
                total(9) = 2
                wouldAbort(300) = NONE
                """, FLAT + """
                wouldAbort(300) = NONE
                start(100) = 5
                # done ahead of that
                wouldAbort(300) = NONE
                abort() = 0
                wouldAbort(300) = NONE
                """, RISES_SLOWLY.formatted(1060) + """
                wouldAbort(299) = NONE
                wouldAbort(300) = 1
                step(1) = 1
                wouldAbort(298) = NONE
                wouldAbort(299) = 1
                """, RISES_SLOWLY.formatted(1071) + """
                wouldAbort(300) = NONE
                step(1) = 1
                wouldAbort(300) = 1
                """);
    }

    private static void highest(Edges edges) {
        edges.promise(33, "highest", "int highest(int channel, int loops)");
        edges.sentence("Tells the greatest level that a channel would have, if only loops are done",
                FLAT + """
                addChannel(false, 2000, 200000) = 1
                start(400) = 5
                highest(0, 1) = 400
                highest(1, 1) = 800
                highest(1, 2) = 1000
                highest(1, 300) = 1000
                setMode(1, 0, 121, 1, 1000) = 3000
                # 500 * 3000 / 1000 at line 2, and less behind it
                highest(1, 2) = 1004
                highest(1, 3) = 1500
                highest(1, 300) = 1500
                step(3) = 3
                # not those that it had
                highest(1, 300) = 1003
                """, """
                setLines(100, 150, 100) = 5
                setPoint(100, 500) = 1
                addChannel(true, 0, 200000) = 0
                start(100) = 5
                # a level of 0 is not none
                highest(0, 1) = 0
                """);
        edges.sentence("`channel`: a channel", FLAT + """
                addChannel(false, 2000, 200000) = 1
                start(100) = 5
                highest(-1, 1) = BAD_INDEX
                highest(0, 1) = 100
                highest(1, 1) = 200
                highest(2, 1) = BAD_INDEX
                """);
        edges.sentence("`loops`: 1 to 300", FLAT + """
                start(100) = 5
                highest(0, 0) = BAD_VALUE
                highest(0, 1) = 100
                highest(0, 2) = 126
                highest(0, 300) = 248
                highest(0, 301) = BAD_VALUE
                highest(0, -1) = BAD_VALUE
                highest(0, MIN) = BAD_VALUE
                highest(0, MAX) = BAD_VALUE
                """, RISES_SLOWLY.formatted(200000) + """
                highest(1, 299) = 1060
                highest(1, 300) = 1071
                """);
    }

    private static void errorsOfHighest(Edges edges) {
        edges.sentence("Returns the level", FLAT + "start(100) = 5\nhighest(0, 5) = 248");
        edges.sentence("BAD_INDEX if there is no such channel", """
                highest(0, 1) = BAD_INDEX
                highest(0, 0) = BAD_INDEX
                """, FLAT + """
                start(100) = 5
                highest(1, 1) = BAD_INDEX
                highest(1, 301) = BAD_INDEX
                highest(6, 1) = BAD_INDEX
                highest(MIN, 1) = BAD_INDEX
                highest(MAX, 1) = BAD_INDEX
                """);
        edges.sentence("BAD_VALUE if loops is out of range", FLAT + """
                highest(0, 0) = BAD_VALUE
                highest(0, 301) = BAD_VALUE
                """);
        edges.sentence("NONE if its level would not be found in any of these loops", FLAT + """
                highest(0, 300) = NONE
                start(100) = 5
                highest(0, 300) = 248
                abort() = 0
                highest(0, 300) = NONE
                step(50) = 7
                highest(0, 300) = NONE
                """, FLAT + DONE + "highest(0, 300) = NONE", ABORTS_AT_LINE_2 + """
                # no level is found while it is aborting
                highest(0, 3) = 158
                highest(0, 300) = 158
                step(3) = 3
                highest(0, 300) = NONE
                """);
    }

    private static void notPromised(Edges edges) {
        edges.section("Not promised");
        edges.noEdge("How the state is held inside the object is free, as are the speed of each call, "
                + "the text of toString and the behaviour of equals and hashCode. Use of one object "
                + "from several threads at once is not promised to be safe. Nothing is promised "
                + "beyond the answers and state changes described above, and nothing about an object "
                + "after its 512th call");
    }
}
