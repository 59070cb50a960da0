/** Promises 12 to 15: the text and the acts that it tells. */
public final class TextTest {
    private static final String FLAT = SetUpTest.FLAT;

    private static void appending(Due due) {
        Script.played(due, "promises 12 and 13", """
                append(31) = BAD_VALUE
                append(127) = BAD_VALUE
                append(-1) = BAD_VALUE
                append(MIN) = BAD_VALUE
                append(MAX) = BAD_VALUE
                total(13) = 0
                append(32) = 1
                append(126) = 2
                total(13) = 2
                clearText() = 2
                total(13) = 0
                clearText() = 0
                append(103) = 1
                clearText() = 1
                """ + "type " + "h;".repeat(40) + """

                total(13) = 80
                append(104) = FULL
                append(31) = BAD_VALUE
                total(13) = 80
                faultPosition() = NONE
                total(12) = 0
                clearText() = 80
                append(104) = 1
                faultPosition() = 1
                """);
    }

    /** Each text with its fault position, -6 without. */
    private static void faults(Due due) {
        Object[][] texts = {
            {"", -6}, {"g", 1}, {"g1", 2}, {"g1;", -6}, {"g999;", -6}, {"g0;", 1}, {"g00", 1},
            {"g01;", 1}, {"g1000;", 4}, {"g9999", 4}, {"g12x;", 3}, {"g;", 1}, {"g-1;", 1},
            {"s", 1}, {"s1;", -6}, {"s50;", -6}, {"s51;", 1}, {"s51", 1}, {"s0;", 1}, {"s0", 1},
            {"s5", 2}, {"s500;", 1}, {"s5000;", 1}, {"s999", 1}, {"s50x", 3}, {"s5 ;", 2},
            {"h;", -6}, {"h", 1}, {"hh", 1}, {"h1;", 1}, {"r;", -6}, {"r", 1}, {"x;", -6},
            {"x=", 1}, {"c", 1}, {"c0", 2}, {"c0=", 3}, {"c0=0", 4}, {"c0=0;", -6},
            {"c5=100;", -6}, {"c6", 1}, {"c6=1;", 1}, {"c9", 1}, {"c51=1;", 1}, {"c05=1;", 2},
            {"c00", 2}, {"c5;", 2}, {"c5==", 3}, {"c=", 1}, {"c0=00;", 4}, {"c0=01;", 4},
            {"c0=101;", 3}, {"c0=101", 3}, {"c0=1000;", 6}, {"c0=100x", 6}, {"c0=999", 3},
            {"c0=;", 3}, {"c0=99;", -6}, {"c1=7;x;", -6}, {"h;k", 2}, {"k;", 0}, {";", 0},
            {" h;", 0}, {"h; r;", 2}, {"h;;", 2}, {"G1;", 0}, {"1", 0}, {"g1;s", 4},
            {"g1;s0;h;", 4}, {"g1;s1;h;r;x;c1=1;", -6}, {"h;r;x", 5}, {"g1;g1000;", 7},
            {"~", 0}, {"g:", 1}, {"g/", 1}, {"d1;", 0}, {"i;", 0}, {"b1=1;", 0}, {"y;", 0},
        };
        for (Object[] row : texts) {
            ShakerSweep object = new ShakerSweep();
            String text = (String) row[0];
            for (int place = 0; place < text.length(); place++) {
                object.append(text.charAt(place));
            }
            due.is("promise 14: fault of " + text, object.faultPosition(), (Integer) row[1]);
            if ((Integer) row[1] != -6) {
                due.is("promise 15: run of " + text, object.run(), -3);
            }
        }
        Script full = Script.played(due, "promise 14, a full text",
                "type " + "h;".repeat(39) + "hh\n faultPosition() = 79\n total(13) = 80");
        full.play("clearText() = 80\n type " + "h;".repeat(38)
                + "s50;\n faultPosition() = NONE\n total(13) = 80");
        full.play("clearText() = 80\n type " + "h;".repeat(39)
                + "s5\n faultPosition() = 80\n run() = NOT_POSSIBLE");
    }

    private static void running(Due due) {
        Script.played(due, "promise 15", FLAT + """
                type c0=2;g100;s2;h;s1;r;s3;
                faultPosition() = NONE
                total(12) = 3
                run() = 7
                total(12) = 4
                # of the six loops the first three go on, the held one does not
                total(8) = 6
                total(0) = 5
                total(14) = 2
                total(13) = 23
                undo() = 3
                total(14) = 0
                total(0) = 0
                total(13) = 23
                run() = 7
                """);
        Script.played(due, "promise 15, each act", FLAT + """
                type g999;
                run() = 1
                total(2) = 999
                total(0) = 1
                clearText() = 5
                type s3;
                run() = 1
                total(8) = 3
                total(1) = 3
                clearText() = 3
                type h;
                run() = 1
                total(0) = 2
                run() = 0
                clearText() = 2
                type r;
                run() = 1
                total(0) = 1
                run() = 0
                clearText() = 2
                type x;
                run() = 1
                total(0) = 3
                total(10) = 3
                total(9) = NONE
                run() = 0
                total(12) = 5
                clearText() = 2
                type c4=90;c3=7;
                run() = 2
                total(18) = 90
                total(17) = 7
                """);
    }

    private static void stoppingAtErrors(Due due) {
        Script.played(due, "promise 15, until an error", FLAT + """
                type c1=3;c1=9;c1=4;
                run() = 1
                total(15) = 3
                total(12) = 4
                clearText() = 15
                type g5;g6;s1;
                run() = 1
                total(11) = 1
                total(8) = 0
                total(12) = 5
                undo() = 4
                total(11) = 0
                total(0) = 0
                clearText() = 9
                type s1;g5;
                run() = 0
                total(0) = 0
                total(12) = 5
                clearText() = 6
                # recorded, too, if nothing becomes different
                run() = 0
                total(12) = 5
                """);
        Script.played(due, "promise 15, refused at once", """
                type g5;
                run() = 0
                total(11) = 2
                total(12) = 1
                undo() = 0
                total(11) = 0
                run() = 0
                clearText() = 3
                run() = 0
                total(12) = 2
                append(103) = 1
                run() = NOT_POSSIBLE
                total(12) = 2
                total(11) = 2
                """);
        Script.played(due, "promise 15, to the end of a full text", FLAT + "set(5, 9) = 1\n"
                + "type g1;" + "s50;".repeat(19) + """

                total(13) = 79
                run() = 2
                total(0) = 5
                total(8) = 37
                undo() = 4
                hold(true) = NOT_POSSIBLE
                """);
    }

    public static void main(String[] args) {
        Due due = new Due("TextTest");
        appending(due);
        faults(due);
        running(due);
        stoppingAtErrors(due);
        due.end();
    }
}
