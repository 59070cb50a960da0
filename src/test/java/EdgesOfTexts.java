/** Sentences of "Terms": the text, the history, errors and the constants. */
final class EdgesOfTexts {
    private static final String FLAT = Edges.FLAT;
    private static final String EIGHTY_BYTES = "type " + "h;".repeat(40) + "\n";

    /** A profile, channels, notches, a text and a history without room for more; it rests. */
    private static final String ALL_FULL = "setLines(100, 150, 100) = 5\n" + """
            setPoint(101, 1) = 1
            setPoint(102, 2) = 2
            setPoint(103, 3) = 3
            setPoint(104, 4) = 4
            setPoint(105, 5) = 5
            setPoint(106, 6) = 6
            setPoint(107, 7) = 7
            setPoint(108, 8) = 8
            addChannel(true, 1000, 200000) = 0
            addChannel(false, 1000, 200000) = 1
            addChannel(false, 1000, 200000) = 2
            addChannel(false, 1000, 200000) = 3
            addChannel(false, 1000, 200000) = 4
            addChannel(false, 1000, 200000) = 5
            addNotch(5, 1, 9, 9) = 0
            addNotch(5, 1, 9, 8) = 1
            addNotch(5, 1, 9, 7) = 2
            addNotch(5, 1, 9, 6) = 3
            """ + EIGHTY_BYTES;

    private EdgesOfTexts() {
    }

    static void tell(Edges edges) {
        acts(edges);
        ranges(edges);
        faults(edges);
        history(edges);
        recorded(edges);
        slots(edges);
        orderOfErrors(edges);
        noneIsLast(edges);
        errorsChangeNothing(edges);
        constants(edges);
        headings(edges);
    }

    private static void acts(Edges edges) {
        edges.sentence("The text. The text has at most 80 bytes", EIGHTY_BYTES + """
                total(13) = 80
                append(59) = FULL
                total(13) = 80
                faultPosition() = NONE
                clearText() = 80
                append(59) = 1
                """, "type " + "h;".repeat(39) + """
                h
                total(13) = 79
                append(59) = 80
                append(59) = FULL
                """);
        edges.sentence("It tells acts, perhaps none, each with a semicolon at its end", """
                fault of = NONE
                run() = 0
                fault of ; = 0
                fault of h = 1
                fault of h; = NONE
                fault of h;; = 2
                fault of h;r = 3
                fault of h;r; = NONE
                fault of hr; = 1
                fault of h:r; = 1
                """);
        edges.sentence("g and a drive (starting)", FLAT + """
                fault of g = 1
                fault of g; = 1
                fault of gg; = 1
                fault of G7; = 0
                fault of g7; = NONE
                run() = 1
                total(0) = 1
                total(2) = 7
                """);
        edges.sentence("s and loops (stepping)", FLAT + """
                start(100) = 5
                fault of s = 1
                fault of s; = 1
                fault of S3; = 0
                fault of s3; = NONE
                run() = 1
                total(8) = 3
                """);
        edges.sentence("h (holding)", FLAT + """
                start(100) = 5
                fault of H; = 0
                fault of h1; = 1
                fault of h; = NONE
                run() = 1
                total(0) = 2
                """);
        edges.sentence("r (going on)", FLAT + """
                start(100) = 5
                hold(true) = 0
                fault of R; = 0
                fault of r1; = 1
                fault of r; = NONE
                run() = 1
                total(0) = 1
                """);
        edges.sentence("x (aborting)", FLAT + """
                start(100) = 5
                step(2) = 2
                fault of X; = 0
                fault of x1; = 1
                fault of x; = NONE
                run() = 1
                total(0) = 3
                total(10) = 2
                """);
        edges.sentence("c, a setting, an equals sign and a value (setting)", """
                fault of c = 1
                fault of c; = 1
                fault of c3 = 2
                fault of c3; = 2
                fault of c3= = 3
                fault of c3=; = 3
                fault of c3==7; = 3
                fault of c3-7; = 2
                fault of C3=7; = 0
                fault of c3=7; = NONE
                run() = 1
                total(17) = 7
                """);
    }

    private static void ranges(Edges edges) {
        edges.sentence("A drive is from 1 to 999", """
                fault of g0; = 1
                fault of g1; = NONE
                fault of g999; = NONE
                fault of g1000; = 4
                fault of g-1; = 1
                """);
        edges.sentence("loops from 1 to 50", """
                fault of s0; = 1
                fault of s1; = NONE
                fault of s50; = NONE
                fault of s51; = 1
                fault of s100; = 1
                fault of s999; = 1
                """);
        edges.sentence("a setting from 0 to 5", """
                fault of c0=1; = NONE
                fault of c5=1; = NONE
                fault of c6=1; = 1
                fault of c9=1; = 1
                fault of c10=1; = 1
                fault of c-1=1; = 1
                """);
        // What the setting takes is another thing: that is the act's error.
        edges.sentence("a value from 0 to 100", """
                fault of c3=0; = NONE
                run() = 0
                fault of c3=100; = NONE
                run() = 1
                fault of c3=101; = 3
                fault of c3=999; = 3
                fault of c0=3; = NONE
                run() = 0
                """);
        edges.sentence("Each number has 1 to 3 digits, the first one not 0 unless it is the only one",
                """
                fault of g; = 1
                fault of g1; = NONE
                fault of g12; = NONE
                fault of g123; = NONE
                fault of g1234; = 4
                fault of c1=1000; = 6
                fault of g100; = NONE
                fault of c0=0; = NONE
                fault of c00=0; = 2
                fault of c05=0; = 2
                fault of c0=00; = 4
                fault of c0=01; = 4
                fault of c0=10; = NONE
                fault of g01; = 1
                """);
        edges.sentence("There are no blanks", """
                fault of  h; = 0
                fault of h ; = 1
                fault of h; r; = 2
                fault of h;  = 2
                fault of g 1; = 1
                fault of g1 ; = 2
                fault of g1 2; = 2
                fault of c 1=2; = 1
                fault of c1 =2; = 2
                fault of c1= 2; = 3
                """);
    }

    private static void faults(Edges edges) {
        edges.sentence("The fault position is the index, counted from 0, of the first byte with which "
                + "the text does not follow this form", """
                fault of k = 0
                fault of ~; = 0
                fault of 1; = 0
                fault of hk = 1
                fault of h;k; = 2
                fault of h;k;k; = 2
                fault of g1;s2x; = 5
                fault of g1x = 2
                fault of c1=2=3; = 4
                fault of c1=1;c2 = 7
                fault of h/ = 1
                fault of g/ = 1
                fault of g: = 1
                """, "fault of " + "h;".repeat(39) + "hh = 79",
                "fault of " + "h;".repeat(38) + "s50; = NONE");
        edges.sentence("or its length if it ends too early", """
                fault of g = 1
                fault of g9 = 2
                fault of g99 = 3
                fault of g999 = 4
                fault of s5 = 2
                fault of h = 1
                fault of c = 1
                fault of c5 = 2
                fault of c5= = 3
                fault of c5=1 = 4
                fault of c5=100 = 6
                fault of h;r;x = 5
                fault of = NONE
                """, "fault of " + "h;".repeat(39) + "s5 = 80",
                "fault of " + "h;".repeat(39) + "h = 79");
        edges.sentence("a number, that is, the digits that stand there, but three at most (0 alone, if "
                + "the first one is 0), that is out of its range is a fault at its first digit, "
                + "whatever follows it", """
                fault of g0 = 1
                fault of g00 = 1
                fault of g0x = 1
                fault of g05; = 1
                fault of s0 = 1
                fault of s05; = 1
                fault of s51 = 1
                fault of s51x = 1
                fault of s510; = 1
                fault of s5100; = 1
                fault of s5; = NONE
                fault of s500 = 1
                fault of c6 = 1
                fault of c6x = 1
                fault of c50=1; = 1
                fault of c500=1; = 1
                fault of c5000=1; = 1
                fault of c00=1; = 2
                fault of c1=101 = 3
                fault of c1=101x = 3
                fault of c1=1010; = 3
                fault of c1=1001; = 6
                fault of g9990; = 4
                """, "fault of " + "h;".repeat(39) + "g0 = 79",
                "fault of " + "h;".repeat(38) + "cc5= = 77");
    }

    private static void history(Edges edges) {
        edges.sentence("History. At most 5 states are kept", """
                4x set(0, 0) = 0
                total(12) = 4
                set(0, 0) = 0
                total(12) = 5
                set(0, 0) = 0
                total(12) = 5
                undo() = 4
                undo() = 3
                undo() = 2
                undo() = 1
                undo() = 0
                undo() = NOT_POSSIBLE
                """, """
                400x set(0, 0) = 0
                total(12) = 5
                """);
        edges.sentence("a state is all but the text, the history and the slots", """
                type h;
                set(0, 1) = 0
                clearText() = 2
                save(0) = 0
                save(1) = 0
                undo() = 0
                # neither the text nor the slots come back
                total(13) = 0
                restore(0) = 0
                restore(1) = 0
                # and no history comes with a slot
                total(12) = 2
                type r;
                restore(0) = 0
                total(13) = 2
                total(12) = 3
                undo() = 2
                total(13) = 2
                """, "save(0) = 0\n" + HistoryTest.HOLDING + """
                save(1) = 2
                remember
                restore(0) = 0
                """ + HistoryTest.ABORTED + """
                restore(1) = 2
                as remembered
                """, "save(0) = 0\n" + HistoryTest.HOLDING + """
                save(1) = 2
                restore(0) = 0
                """ + HistoryTest.ABORTED + """
                remember
                restore(1) = 2
                undo() = 4
                as remembered
                """);
    }

    private static void recorded(Edges edges) {
        edges.sentence("Each call of which it is said that it is recorded, and that reports no error, "
                + "records the state ahead of it (also if nothing becomes different)", """
                set(0, 0) = 0
                total(12) = 1
                set(0, 0) = 0
                total(12) = 2
                set(0, 3) = BAD_VALUE
                set(6, 0) = BAD_INDEX
                total(12) = 2
                set(0, 1) = 0
                set(0, 2) = 1
                undo() = 3
                total(14) = 1
                undo() = 2
                total(14) = 0
                """, """
                set(0, 1) = 0
                start(1) = REFUSED
                total(12) = 1
                # the state ahead of the call has the reason of the start that was refused
                set(0, 2) = 1
                undo() = 1
                total(11) = 2
                undo() = 0
                total(11) = 0
                """, FLAT + """
                setLines(100, 150, 100) = 5
                total(12) = 4
                setPoint(100, 500) = 1
                total(12) = 5
                """);
        edges.sentence("when one more is recorded, the oldest is dropped", """
                set(1, 2) = 1
                set(1, 3) = 2
                set(1, 4) = 3
                set(1, 5) = 4
                set(1, 6) = 5
                set(1, 7) = 6
                undo() = 4
                total(15) = 6
                undo() = 3
                undo() = 2
                undo() = 1
                undo() = 0
                # the state with an averaging of 1 was the oldest
                total(15) = 2
                undo() = NOT_POSSIBLE
                """, """
                set(1, 2) = 1
                set(1, 3) = 2
                set(1, 4) = 3
                set(1, 5) = 4
                set(1, 6) = 5
                # with five none is dropped yet
                undo() = 4
                undo() = 3
                undo() = 2
                undo() = 1
                undo() = 0
                total(15) = 1
                """, """
                set(1, 2) = 1
                set(1, 3) = 2
                set(1, 4) = 3
                set(1, 5) = 4
                set(1, 6) = 5
                # an error, and what is not recorded, drops none
                set(1, 9) = BAD_VALUE
                step(1) = NOT_POSSIBLE
                save(0) = 0
                undo() = 4
                undo() = 3
                undo() = 2
                undo() = 1
                undo() = 0
                total(15) = 1
                """);
    }

    private static void slots(Edges edges) {
        edges.sentence("There are two slots, 0 and 1, empty at first", """
                restore(-1) = BAD_INDEX
                restore(0) = NOT_POSSIBLE
                restore(1) = NOT_POSSIBLE
                restore(2) = BAD_INDEX
                save(-1) = BAD_INDEX
                save(2) = BAD_INDEX
                set(0, 1) = 0
                save(0) = 0
                restore(1) = NOT_POSSIBLE
                set(0, 2) = 1
                save(1) = 0
                restore(0) = 0
                total(14) = 1
                restore(1) = 0
                total(14) = 2
                """);
    }

    private static void orderOfErrors(Edges edges) {
        edges.noEdge("Errors. Errors are reported by negative constants");
        String running = "start(100) = 5\n" + """
                setLines(4, 2000, 10) = BAD_VALUE
                setLines(5, 2000, 10) = NOT_POSSIBLE
                setPoint(0, 1) = BAD_VALUE
                setPoint(109, 1) = NOT_POSSIBLE
                addChannel(true, 5001, 1) = BAD_VALUE
                addChannel(true, 5000, 1) = NOT_POSSIBLE
                start(0) = BAD_VALUE
                start(1001) = BAD_VALUE
                """;
        edges.sentence("Where several can apply, the order of the @return line is the order of the "
                + "checks", ALL_FULL + """
                setLines(5, 2000, 9) = BAD_VALUE
                setLines(5, 2000, 10) = FULL
                setPoint(2001, 1) = BAD_VALUE
                setPoint(2000, 1) = FULL
                addChannel(true, 1, 0) = BAD_VALUE
                addChannel(true, 1, 1) = FULL
                setMode(6, 0, 0, 1, 1) = BAD_INDEX
                setMode(0, 3, 1, 501, 1) = BAD_INDEX
                addNotch(6, 1, 1, 0) = BAD_INDEX
                addNotch(5, 1, 1, 0) = BAD_VALUE
                addNotch(5, 1, 1, 1) = FULL
                set(6, -1) = BAD_INDEX
                step(0) = BAD_VALUE
                step(51) = BAD_VALUE
                append(127) = BAD_VALUE
                append(126) = FULL
                restore(2) = BAD_INDEX
                gain(6, 0) = BAD_INDEX
                limit(6, 0) = BAD_INDEX
                channel(6, 8) = BAD_INDEX
                resonance(6, -1) = BAD_INDEX
                highest(6, 0) = BAD_INDEX
                """ + running, "start(0) = BAD_VALUE\nstart(1) = REFUSED\nstep(0) = BAD_VALUE");
    }

    private static void noneIsLast(Edges edges) {
        edges.sentence("NONE is not an error and is returned only if no error applies", """
                target(0) = BAD_VALUE
                target(1) = NONE
                addChannel(true, 1000, 1) = 0
                limit(0, 2001) = BAD_VALUE
                limit(1, 1) = BAD_INDEX
                limit(0, 1) = NONE
                level(0, 0) = BAD_INDEX
                averaged(0, 0) = BAD_INDEX
                controlGain(0) = BAD_INDEX
                driveAt(0) = BAD_INDEX
                notchedBy(0) = BAD_INDEX
                setLines(5, 5, 10) = 1
                level(0, 0) = NONE
                level(0, 1) = BAD_INDEX
                averaged(0, 0) = NONE
                averaged(0, 1) = BAD_INDEX
                controlGain(0) = NONE
                controlGain(1) = BAD_INDEX
                driveAt(0) = NONE
                driveAt(1) = BAD_INDEX
                notchedBy(0) = NONE
                notchedBy(1) = BAD_INDEX
                resonance(0, -1) = BAD_VALUE
                resonance(0, 0) = NONE
                resonance(1, 0) = BAD_INDEX
                wouldAbort(0) = BAD_VALUE
                wouldAbort(1) = NONE
                highest(0, 0) = BAD_VALUE
                highest(0, 1) = NONE
                highest(1, 1) = BAD_INDEX
                total(20) = BAD_VALUE
                total(1) = NONE
                total(9) = NONE
                """);
    }

    private static void errorsChangeNothing(Edges edges) {
        String anyState = """
                same setLines(5, 2000, 9) = BAD_VALUE
                same setPoint(2001, 1) = BAD_VALUE
                same addChannel(true, 1, 0) = BAD_VALUE
                same setMode(6, 0, 1, 1, 1) = BAD_INDEX
                same setMode(0, 3, 1, 1, 1) = BAD_INDEX
                same setMode(0, 0, 1, 1, 50001) = BAD_VALUE
                same addNotch(6, 1, 1, 1) = BAD_INDEX
                same addNotch(5, 1, 1, 200001) = BAD_VALUE
                same addNotch(5, 1, 1, 1) = FULL
                same set(6, 1) = BAD_INDEX
                same set(1, 9) = BAD_VALUE
                same start(1001) = BAD_VALUE
                same step(51) = BAD_VALUE
                same hold(false) = NOT_POSSIBLE
                same append(127) = BAD_VALUE
                same append(59) = FULL
                same save(2) = BAD_INDEX
                same restore(2) = BAD_INDEX
                same restore(1) = NOT_POSSIBLE
                """;
        edges.sentence("A call that reports an error changes nothing, but for the reason where it "
                + "reports REFUSED (which sets it)", ALL_FULL + anyState + """
                same setLines(5, 2000, 10) = FULL
                same setPoint(100, 1) = FULL
                same addChannel(true, 1, 1) = FULL
                same step(1) = NOT_POSSIBLE
                same hold(true) = NOT_POSSIBLE
                same abort() = NOT_POSSIBLE
                """, ALL_FULL + "start(100) = 5\nstep(2) = 2\n" + anyState + """
                same setLines(100, 150, 100) = NOT_POSSIBLE
                same setPoint(101, 1) = NOT_POSSIBLE
                same addChannel(true, 1, 1) = NOT_POSSIBLE
                start(100) = REFUSED
                total(11) = 1
                step(1) = 1
                # the reason is 1 already
                same start(100) = REFUSED
                same start(1001) = BAD_VALUE
                total(0) = 1
                total(1) = 3
                abort() = 3
                same abort() = NOT_POSSIBLE
                """, """
                start(1) = REFUSED
                total(11) = 2
                total(12) = 0
                total(0) = 0
                total(2) = 0
                same start(1) = REFUSED
                same undo() = NOT_POSSIBLE
                type h
                same run() = NOT_POSSIBLE
                same total(20) = BAD_VALUE
                same frequency(0) = BAD_INDEX
                """);
    }

    private static void constants(Edges edges) {
        edges.sentence("The constants: `BAD_INDEX = -1`: There is no such channel, mode, line, setting "
                + "or slot", """
                channel(0, 0) = -1
                addChannel(true, 1, 1) = 0
                setMode(0, 3, 1, 1, 1) = -1
                frequency(0) = -1
                set(6, 1) = -1
                save(2) = -1
                """);
        edges.sentence("`BAD_VALUE = -2`: Another argument is out of range", """
                setLines(4, 10, 10) = -2
                set(0, 3) = -2
                target(0) = -2
                """);
        edges.sentence("`NOT_POSSIBLE = -3`: The call is not possible now", """
                step(1) = -3
                undo() = -3
                restore(0) = -3
                """);
        edges.sentence("`FULL = -4`: There is no room", """
                setLines(5, 2000, 10) = -4
                """, ALL_FULL + """
                setPoint(100, 1) = -4
                addChannel(true, 1, 1) = -4
                addNotch(5, 1, 1, 1) = -4
                append(32) = -4
                """);
        edges.sentence("`REFUSED = -5`: It is refused; the reason is told by total(11)", """
                start(1) = -5
                total(11) = 2
                """);
        edges.sentence("`NONE = -6`: There is no such thing; not an error", """
                target(1) = -6
                faultPosition() = -6
                total(1) = -6
                """);
    }

    private static void headings(Edges edges) {
        edges.noEdge("Ahead of the calls `setLines`, `setPoint`, `addChannel`, `setMode`, `addNotch`, "
                + "`set` the interface says: ---- lines, profile, channels, settings");
        edges.noEdge("Ahead of the calls `start`, `step`, `hold`, `abort` the interface says: ---- "
                + "running");
        edges.noEdge("Ahead of the calls `append`, `clearText`, `faultPosition`, `run` the interface "
                + "says: ---- the text");
        edges.noEdge("Ahead of the calls `undo`, `save`, `restore` the interface says: ---- history "
                + "and slots");
        edges.noEdge("Ahead of the calls `frequency`, `target`, `gain`, `limit`, `channel`, `level`, "
                + "`averaged`, `controlGain`, `driveAt`, `notchedBy`, `resonance`, `total` the "
                + "interface says: ---- looking");
        edges.sentence("Ahead of the calls `loopsLeft`, `wouldAbort`, `highest` the interface says: "
                + "---- forecasts, which change nothing", FLAT + """
                addNotch(0, 110, 110, 105) = 0
                start(100) = 5
                step(1) = 1
                same loopsLeft() = 4
                same wouldAbort(300) = NONE
                same highest(0, 300) = 208
                total(8) = 1
                hold(true) = 1
                same loopsLeft() = NONE
                same wouldAbort(300) = NONE
                same highest(0, 300) = 105
                total(8) = 1
                """);
    }
}
