/** Sentences of promises 12 to 15: the text. */
final class EdgesOfActs {
    private static final String FLAT = Edges.FLAT;
    private static final String EIGHTY_BYTES = "type " + "h;".repeat(40) + "\n";

    private EdgesOfActs() {
    }

    static void tell(Edges edges) {
        appending(edges);
        clearing(edges);
        faults(edges);
        running(edges);
        runningToAnError(edges);
        recordedAsOne(edges);
    }

    private static void appending(Edges edges) {
        edges.promise(12, "append", "int append(int b)");
        edges.sentence("Appends a byte to the text", """
                append(104) = 1
                faultPosition() = 1
                append(59) = 2
                faultPosition() = NONE
                append(107) = 3
                faultPosition() = 2
                total(12) = 0
                """);
        edges.sentence("`b`: 32 to 126", """
                append(31) = BAD_VALUE
                append(32) = 1
                append(126) = 2
                append(127) = BAD_VALUE
                append(0) = BAD_VALUE
                append(-1) = BAD_VALUE
                append(315) = BAD_VALUE
                append(MIN) = BAD_VALUE
                append(MAX) = BAD_VALUE
                total(13) = 2
                """);
        edges.sentence("Returns the length of the text then", """
                append(104) = 1
                append(59) = 2
                clearText() = 2
                append(59) = 1
                """, EIGHTY_BYTES + "total(13) = 80");
        edges.sentence("BAD_VALUE if b is out of range", """
                append(31) = BAD_VALUE
                append(127) = BAD_VALUE
                total(13) = 0
                """, EIGHTY_BYTES + "append(31) = BAD_VALUE\nappend(127) = BAD_VALUE");
        edges.sentence("FULL if the text has 80 bytes", EIGHTY_BYTES + """
                append(32) = FULL
                append(126) = FULL
                total(13) = 80
                faultPosition() = NONE
                """, "type " + "h;".repeat(39) + "\n" + """
                total(13) = 78
                append(104) = 79
                append(59) = 80
                append(104) = FULL
                """);
    }

    private static void clearing(Edges edges) {
        edges.promise(13, "clearText", "int clearText()");
        edges.sentence("Empties the text", """
                type hk
                faultPosition() = 1
                clearText() = 2
                total(13) = 0
                faultPosition() = NONE
                # nothing of it comes back behind a shorter text
                append(104) = 1
                faultPosition() = 1
                """, EIGHTY_BYTES + """
                clearText() = 80
                append(104) = 1
                """);
        edges.sentence("Returns the length that it had", """
                clearText() = 0
                append(104) = 1
                clearText() = 1
                clearText() = 0
                """, EIGHTY_BYTES + "clearText() = 80");
    }

    private static void faults(Edges edges) {
        edges.promise(14, "faultPosition", "int faultPosition()");
        edges.noEdge("Returns the fault position of the text");
        edges.sentence("Returns the fault position", """
                fault of k = 0
                fault of h = 1
                fault of g1;s51; = 4
                faultPosition() = 4
                total(13) = 7
                """, "fault of " + "h;".repeat(39) + "hh = 79",
                "fault of " + "h;".repeat(39) + "s9 = 80");
        edges.sentence("NONE if it has no fault", "faultPosition() = NONE",
                EIGHTY_BYTES + "faultPosition() = NONE", """
                fault of g999;s50;h;r;x;c5=100; = NONE
                faultPosition() = NONE
                """);
    }

    private static void running(Edges edges) {
        edges.promise(15, "run", "int run()");
        edges.sentence("Carries out the acts of the text in their order, each as by start, step, hold, "
                + "abort or set (but not recorded by itself)", FLAT + """
                type c5=2;g100;s2;h;s1;r;s3;x;
                run() = 8
                total(12) = 4
                total(0) = 3
                total(1) = 3
                total(7) = 0
                total(6) = 1
                total(8) = 6
                total(10) = 3
                total(19) = 2
                undo() = 3
                # all of it is taken back
                total(0) = 0
                total(19) = 1
                averaged(0, 0) = NONE
                """, FLAT + """
                type g999;
                run() = 1
                total(2) = 999
                clearText() = 5
                type s50;
                run() = 1
                total(0) = 5
                total(8) = 5
                """, "type " + "c0=1;".repeat(16) + "\nrun() = 16\ntotal(14) = 1\ntotal(12) = 1",
                FLAT + "start(100) = 5\ntype " + "h;r;".repeat(20) + "\nrun() = 40\ntotal(0) = 1");
    }

    private static void runningToAnError(Edges edges) {
        edges.sentence("until one of them reports an error (REFUSED, too, which sets the reason)",
                FLAT + """
                type c1=3;c1=9;c1=4;
                run() = 1
                total(15) = 3
                """, FLAT + """
                type g5;g6;s1;
                run() = 1
                total(11) = 1
                total(2) = 5
                total(8) = 0
                """, """
                type g5;c1=3;
                run() = 0
                total(11) = 2
                total(15) = 1
                """, FLAT + """
                type s1;g5;
                run() = 0
                total(0) = 0
                """, FLAT + """
                type r;g5;
                run() = 0
                total(0) = 0
                """, FLAT + """
                type x;g5;
                run() = 0
                total(0) = 0
                """, FLAT + """
                type g5;h;h;s1;
                run() = 2
                total(8) = 0
                """, FLAT + """
                type g5;s50;s1;g6;
                # it rests behind five loops
                run() = 2
                total(0) = 5
                """, FLAT + """
                # an error in the form: nothing is carried out
                type g5;c6=1;
                run() = NOT_POSSIBLE
                total(0) = 0
                """);
        edges.sentence("the text stays", FLAT + """
                type c3=26;g5;s1;
                run() = 3
                total(13) = 12
                faultPosition() = NONE
                undo() = 3
                run() = 3
                # once more: it does not rest any more
                run() = 1
                total(11) = 1
                total(13) = 12
                clearText() = 12
                """);
    }

    private static void recordedAsOne(Edges edges) {
        edges.sentence("Recorded, as one call", FLAT + """
                type c1=2;c1=3;c1=4;
                remember
                run() = 3
                total(12) = 4
                total(15) = 4
                undo() = 3
                total(15) = 1
                as remembered
                """, """
                # also without an act, and if the first act is an error
                run() = 0
                total(12) = 1
                type s1;
                run() = 0
                total(12) = 2
                clearText() = 3
                type g1;
                run() = 0
                total(11) = 2
                total(12) = 3
                undo() = 2
                total(11) = 0
                """, """
                type h
                run() = NOT_POSSIBLE
                total(12) = 0
                """);
        edges.sentence("Returns the number of acts that were carried out without an error", """
                run() = 0
                type c1=3;
                run() = 1
                type c1=9;
                run() = 1
                type c1=4;
                run() = 1
                """, "type " + "c0=1;".repeat(16) + "\nrun() = 16",
                FLAT + "start(100) = 5\ntype " + "h;r;".repeat(20) + "\nrun() = 40");
        edges.sentence("NOT_POSSIBLE if the text has a fault", FLAT + """
                type g5;k
                run() = NOT_POSSIBLE
                total(0) = 0
                clearText() = 4
                type g5;s
                run() = NOT_POSSIBLE
                total(0) = 0
                total(12) = 3
                clearText() = 4
                type g5
                run() = NOT_POSSIBLE
                append(59) = 3
                run() = 1
                """, "type " + "h;".repeat(39) + "s5\nrun() = NOT_POSSIBLE\ntotal(12) = 0");
    }
}
