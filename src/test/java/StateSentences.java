/** The description's sentences of the state, of undo and of snapshots. */
final class StateSentences {
    /** A heap in which each of the ten calls that save a state can succeed and be refused. */
    private static final String HEAP = "allocate() = 0; allocateTable() = 1; allocateWeak(0) = 2;"
            + "allocate() = 3; setRoot(0, 1) = -9; put(1, 0, 3) = -9; setFinalizable(3, 1) = 1;"
            + "collect() = 2; noticeCount() = 2; allocate() = 0; allocateWeak(3) = 2;"
            + "put(1, 3, 0) = -9; setField(3, 1, 2) = -9; undoDepth() = 6;";

    private StateSentences() {
    }

    static void test(Sentences sentences) {
        state(sentences);
        savingCalls(sentences);
        history(sentences);
    }

    private static void state(Sentences sentences) {
        sentences.holds("The state consists of the objects with everything that belongs to them, the"
                + " roots, the queue of notices, and the number of rounds of the last collection.",
                "allocate() = 0; allocateTable() = 1; allocateWeak(0) = 2; allocate() = 3;"
                + "setRoot(4, 1) = -9; setFinalizable(0, 1) = 1; setField(0, 2, 2) = -9;"
                + "put(1, 1, 0) = -9; put(1, 0, 2) = -9; collect() = 1; lastRounds() = 1; save(1) = 3;"
                + "setRoot(4, -9) = 1; collect() = 1; collect() = 2; objectCount() = 0;"
                + "noticeCount() = 1; lastRounds() = 0; restore(1) = 3; kind(0) = 0; kind(1) = 1;"
                + "kind(2) = 2; target(2) = 0; field(0, 2) = 2; root(4) = 1; entryKey(1, 0) = 1;"
                + "entryKey(1, 1) = 0; get(1, 1) = 0; get(1, 0) = 2; noticeCount() = 0;"
                + "lastRounds() = 1; setFinalizable(0, 1) = -2");
        sentences.holds("The undo history and the snapshots are not part of the state.",
                "allocate() = 0; allocate() = 1; save(0) = 2; undo() = 1; undo() = 0; save(1) = 0;"
                + "undoDepth() = 0; allocateTable() = 0; undo() = 0; restore(0) = 2; undoDepth() = 0;"
                + "allocate() = 2; undo() = 0; restore(1) = 0; restore(0) = 2; objectCount() = 2");
    }

    private static void savingCalls(Sentences sentences) {
        String saves = "Every successful call of allocate(), allocateTable(), allocateWeak(),"
                + " setField(), setRoot(), put(), removeEntry(), setFinalizable(), pollNotice() and"
                + " collect() saves the state that preceded it;";
        sentences.holds(saves,
                "undoDepth() = 0; allocate() = 0; undoDepth() = 1; allocateTable() = 1;"
                + "undoDepth() = 2; allocateWeak(0) = 2; undoDepth() = 3; setField(0, 0, 1) = -9;"
                + "undoDepth() = 4; setRoot(0, 0) = -9; undoDepth() = 5; put(1, 0, 1) = -9;"
                + "undoDepth() = 6; undo() = 5; undo() = 4; undo() = 3; undo() = 2; undo() = 1;"
                + "undo() = 0; allocateTable() = 0; put(0, 0, 0) = -9; removeEntry(0, 0) = 0;"
                + "undoDepth() = 3; setFinalizable(0, 1) = 1; undoDepth() = 4; collect() = 0;"
                + "undoDepth() = 5; pollNotice() = 3000; undoDepth() = 6");
        sentences.holds(saves, HEAP, "allocate() = 4; undo() = 5; kind(4) = -9");
        sentences.holds(saves, HEAP, "allocateTable() = 4; undo() = 5; kind(4) = -9");
        sentences.holds(saves, HEAP, "allocateWeak(1) = 4; undo() = 5; kind(4) = -9");
        sentences.holds(saves, HEAP, "setField(3, 1, 0) = 2; undo() = 5; field(3, 1) = 2");
        sentences.holds(saves, HEAP, "setRoot(0, 3) = 1; undo() = 5; root(0) = 1");
        sentences.holds(saves, HEAP, "put(1, 3, 3) = 0; undo() = 5; get(1, 3) = 0");
        sentences.holds(saves, HEAP, "put(1, 3, 0) = 0; undo() = 5; get(1, 3) = 0; undo() = 4;"
                + "field(3, 1) = -9");
        sentences.holds(saves, HEAP, "removeEntry(1, 3) = 0; undo() = 5; get(1, 3) = 0");
        sentences.holds(saves, HEAP, "setFinalizable(3, 1) = 1; undo() = 5;"
                + "setFinalizable(3, 0) = -2");
        sentences.holds(saves, HEAP, "pollNotice() = 3003; undo() = 5; pollNotice() = 3003;"
                + "pollNotice() = 2032; undo() = 5; pollNotice() = 2032");
        sentences.holds(saves, HEAP, "collect() = 3; noticeCount() = 3; undo() = 5;"
                + "noticeCount() = 2; objectCount() = 4; get(1, 3) = 0; target(2) = 3");
        sentences.holds(saves, "collect() = 0; undoDepth() = 1; undo() = 0; objectCount() = 0");
    }

    private static void history(Sentences sentences) {
        sentences.holds("undo() restores the most recently saved state and discards it.",
                "undo() = -2; allocate() = 0; allocateTable() = 1; allocate() = 2; undo() = 2;"
                + "objectCount() = 2; undo() = 1; objectCount() = 1; allocate() = 1; kind(1) = 0;"
                + "undo() = 1; kind(1) = -9; undo() = 0; objectCount() = 0; undo() = -2");
        sentences.holds("At most 6 states are saved; when a seventh is saved, the oldest one is"
                + " discarded.",
                Calls.plainObjects(0, 5), "undoDepth() = 6; undo() = 5; undo() = 4; undo() = 3;"
                + "undo() = 2; undo() = 1; undo() = 0; objectCount() = 0; undo() = -2;",
                Calls.plainObjects(0, 6), "undoDepth() = 6; undo() = 5; undo() = 4; undo() = 3;"
                + "undo() = 2; undo() = 1; undo() = 0; objectCount() = 1; undo() = -2;",
                Calls.plainObjects(1, 23), "undoDepth() = 6; undo() = 5; undo() = 4;"
                + "allocateTable() = 22; allocateTable() = 23; undoDepth() = 6; undo() = 5; undo() = 4;"
                + "undo() = 3; undo() = 2; undo() = 1; undo() = 0; objectCount() = 18; undo() = -2");
        sentences.holds("There are two snapshot slots, 0 and 1.",
                "restore(0) = -2; restore(1) = -2; save(0) = 0; allocate() = 0; save(1) = 1;"
                + "restore(0) = 0; restore(1) = 1;", Calls.outside(1, "save(#) = -1;"),
                Calls.outside(1, "restore(#) = -1;"));
    }
}
