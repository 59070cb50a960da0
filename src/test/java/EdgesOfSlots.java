/** Sentences of promises 16 to 18: history and slots. */
final class EdgesOfSlots {
    private static final String FLAT = Edges.FLAT;
    private static final String DONE = Edges.DONE;
    private static final String ABORTED = Edges.ABORTED;

    private EdgesOfSlots() {
    }

    static void tell(Edges edges) {
        undoing(edges);
        saving(edges);
        restoring(edges);
        errorsOfRestoring(edges);
    }

    private static void undoing(Edges edges) {
        edges.promise(16, "undo", "int undo()");
        edges.sentence("Removes the latest state from the history and makes it the present one", """
                set(1, 2) = 1
                set(1, 3) = 2
                set(1, 4) = 3
                undo() = 2
                total(15) = 3
                # what was undone is not in the history
                set(1, 5) = 3
                total(12) = 3
                undo() = 2
                total(15) = 3
                undo() = 1
                total(15) = 2
                undo() = 0
                total(15) = 1
                """, FLAT + """
                start(100) = 5
                step(2) = 2
                addNotch(0, 100, 150, 9) = 0
                step(50) = 3
                undo() = 4
                undo() = 3
                total(0) = 1
                total(1) = 2
                total(2) = 158
                channel(0, 3) = 0
                level(1, 0) = 126
                level(2, 0) = NONE
                driveAt(2) = 158
                # it goes on as it would have gone on
                step(50) = 3
                level(4, 0) = 248
                """, """
                # the place of the history goes round
                set(1, 2) = 1
                20x set(1, 2) = 2
                set(1, 3) = 2
                set(1, 4) = 3
                undo() = 4
                total(15) = 3
                undo() = 3
                total(15) = 2
                """);
        edges.sentence("Returns the number of states that are left in the history", """
                7x set(0, 0) = 0
                undo() = 4
                total(12) = 4
                undo() = 3
                undo() = 2
                undo() = 1
                undo() = 0
                total(12) = 0
                """);
        edges.sentence("NOT_POSSIBLE if there is none", """
                undo() = NOT_POSSIBLE
                set(0, 1) = 0
                undo() = 0
                undo() = NOT_POSSIBLE
                undo() = NOT_POSSIBLE
                total(12) = 0
                total(14) = 0
                set(0, 2) = 0
                undo() = 0
                total(14) = 0
                """);
    }

    private static void saving(Edges edges) {
        edges.promise(17, "save", "int save(int slot)");
        edges.sentence("Keeps a copy of the present state in a slot, in place of what it holds",
                FLAT + """
                start(100) = 5
                step(2) = 2
                save(0) = 1
                # a copy: what comes then does not reach it
                set(1, 8) = 1
                setMode(0, 0, 121, 9, 100) = 1100
                addNotch(0, 1, 2000, 5) = 0
                step(3) = 3
                restore(0) = 1
                total(8) = 2
                total(15) = 1
                gain(0, 121) = 1000
                limit(0, 121) = NONE
                level(2, 0) = NONE
                """, """
                set(0, 1) = 0
                save(0) = 0
                set(0, 2) = 1
                save(1) = 0
                set(0, 0) = 2
                save(1) = 0
                # in place of what it held; the other slot holds what it held
                restore(1) = 0
                total(14) = 0
                restore(0) = 0
                total(14) = 1
                """);
        edges.sentence("Not recorded", """
                save(0) = 0
                save(1) = 0
                total(12) = 0
                undo() = NOT_POSSIBLE
                set(0, 1) = 0
                save(0) = 0
                total(12) = 1
                undo() = 0
                # the slots are not taken back
                restore(0) = 0
                total(14) = 1
                """);
        edges.sentence("`slot`: 0 or 1", """
                save(-1) = BAD_INDEX
                save(0) = 0
                save(1) = 0
                save(2) = BAD_INDEX
                save(MIN) = BAD_INDEX
                save(MAX) = BAD_INDEX
                """);
        edges.sentence("Returns the state of the controller, 0 to 5", FLAT + "save(0) = 0\n" + DONE
                + "save(0) = 5\n" + ABORTED + """
                save(0) = 4
                start(100) = 5
                save(0) = 1
                hold(true) = 0
                save(1) = 2
                abort() = 0
                save(1) = 3
                """);
        edges.sentence("BAD_INDEX if there is no such slot", """
                save(2) = BAD_INDEX
                save(-1) = BAD_INDEX
                restore(0) = NOT_POSSIBLE
                restore(1) = NOT_POSSIBLE
                """);
    }

    private static void restoring(Edges edges) {
        edges.promise(18, "restore", "int restore(int slot)");
        edges.sentence("Makes a copy of the state that a slot holds the present one", FLAT + """
                start(100) = 5
                step(2) = 2
                save(0) = 1
                step(1) = 1
                restore(0) = 1
                total(8) = 2
                # a copy: what comes then does not reach the slot
                set(1, 8) = 1
                setMode(0, 0, 121, 9, 100) = 1100
                step(3) = 3
                restore(0) = 1
                total(8) = 2
                total(15) = 1
                gain(0, 121) = 1000
                level(2, 0) = NONE
                # while it does not rest, too, and again
                restore(0) = 1
                step(50) = 3
                level(4, 0) = 248
                restore(0) = 1
                total(1) = 2
                """, """
                # lines, points and channels go with the state
                save(1) = 0
                """ + FLAT + """
                save(0) = 0
                restore(1) = 0
                total(3) = 0
                total(4) = 0
                total(5) = 0
                restore(0) = 0
                total(3) = 5
                frequency(4) = 146
                target(100) = 500
                channel(0, 1) = 1000
                start(100) = 5
                """);
        edges.sentence("Recorded", """
                save(0) = 0
                set(0, 1) = 0
                restore(0) = 0
                total(12) = 2
                total(14) = 0
                undo() = 1
                total(14) = 1
                restore(1) = NOT_POSSIBLE
                restore(2) = BAD_INDEX
                total(12) = 1
                restore(0) = 0
                restore(0) = 0
                # also if nothing becomes different
                total(12) = 3
                """);
    }

    private static void errorsOfRestoring(Edges edges) {
        edges.sentence("`slot`: 0 or 1", """
                save(0) = 0
                save(1) = 0
                restore(-1) = BAD_INDEX
                restore(0) = 0
                restore(1) = 0
                restore(2) = BAD_INDEX
                restore(MIN) = BAD_INDEX
                restore(MAX) = BAD_INDEX
                """);
        edges.sentence("Returns the state of the controller then, 0 to 5", FLAT + """
                save(0) = 0
                start(100) = 5
                save(1) = 1
                # the state then, not that before
                restore(0) = 0
                restore(1) = 1
                hold(true) = 0
                save(0) = 2
                abort() = 0
                save(1) = 3
                restore(0) = 2
                restore(1) = 3
                step(50) = 7
                save(1) = 4
                start(100) = 5
                step(50) = 5
                save(0) = 5
                restore(1) = 4
                restore(0) = 5
                """);
        edges.sentence("BAD_INDEX if there is no such slot", """
                restore(2) = BAD_INDEX
                restore(-1) = BAD_INDEX
                total(12) = 0
                """);
        edges.sentence("NOT_POSSIBLE if it is empty", """
                restore(0) = NOT_POSSIBLE
                restore(1) = NOT_POSSIBLE
                save(1) = 0
                restore(0) = NOT_POSSIBLE
                restore(1) = 0
                save(0) = 0
                restore(0) = 0
                """);
    }
}
