import java.io.IOException;

/** The sentences of promises 28 to 31, each with a test of its own. */
public final class UndoSentencesTest {
    /** One state in which everything that belongs to a state is there, and six saved states. */
    private static final String HEAP = "allocate() = 0; allocateTable() = 1; allocateWeak(0) = 2;"
            + "allocate() = 3; setRoot(0, 0) = -9; setRoot(5, 1) = -9; setRoot(2, 2) = -9;"
            + "put(1, 1, 3) = -9; setFinalizable(3, 1) = 1; allocate() = 4; put(1, 4, 4) = -9;"
            + "setField(0, 2, 2) = -9; collect() = 1; lastRounds() = 1; noticeCount() = 1;"
            + "undoDepth() = 6;";
    /** Takes all of that away: no object, no root, no notice, no round. */
    private static final String EMPTIED = "pollNotice() = 2036; setRoot(0, -9) = 0;"
            + "setRoot(5, -9) = 1; setRoot(2, -9) = 2; setFinalizable(3, 0) = 0; collect() = 4;"
            + "objectCount() = 0; noticeCount() = 0; lastRounds() = 0; undoDepth() = 6;";
    private static final String AS_BEFORE = "objectCount() = 4; kind(0) = 0; kind(1) = 1;"
            + "kind(2) = 2; kind(3) = 0; kind(4) = -9; field(0, 2) = 2; target(2) = 0;"
            + "entryCount(1) = 1; get(1, 1) = 3; root(0) = 0; root(1) = -9; root(2) = 2; root(5) = 1;"
            + "lastRounds() = 1; noticeCount() = 1; setFinalizable(3, 1) = -2;";
    private static final String SLOT_0_OR_1 = "INVALID_ARGUMENT if slot is neither 0 nor 1";

    public static void main(String[] args) throws IOException {
        Sentences sentences = new Sentences();
        undo(sentences);
        undoDepth(sentences);
        save(sentences);
        restore(sentences);
        sentences.end();
    }

    private static void undo(Sentences sentences) {
        sentences.section("Promise 28: undo");
        sentences.holds("Restores the most recently saved state.",
                HEAP, EMPTIED, "undo() = 5; objectCount() = 4; undo() = 4; undo() = 3; undo() = 2;"
                + "undo() = 1; undo() = 0;", AS_BEFORE, "pollNotice() = 2036");
        sentences.holds("Restores the most recently saved state.",
                HEAP, "undo() = 5; kind(4) = 0; get(1, 4) = 4; entryCount(1) = 2; lastRounds() = 0;"
                + "noticeCount() = 0; undo() = 4; field(0, 2) = -9; undo() = 3; entryCount(1) = 1;"
                + "undo() = 2; kind(4) = -9; undo() = 1; setFinalizable(3, 0) = -2; undo() = 0;"
                + "entryCount(1) = 0; undo() = -2; root(2) = 2");
        sentences.holds("Returns the number of states that are still saved",
                "allocate() = 0; undo() = 0;", Calls.plainObjects(0, 5), "undo() = 5; undo() = 4;"
                + "allocate() = 4; undo() = 4; undo() = 3; undo() = 2; undo() = 1; undo() = 0;",
                Calls.plainObjects(0, 23), "undo() = 5; undo() = 4; undo() = 3; undo() = 2; undo() = 1;"
                + "undo() = 0; objectCount() = 18");
        sentences.holds("ILLEGAL_STATE if none was saved.",
                "undo() = -2; undo() = -2; allocate() = 0; undo() = 0; undo() = -2; save(0) = 0;"
                + "undo() = -2; setRoot(0, 0) = -1; undo() = -2; allocate() = 0; restore(0) = 0;"
                + "undo() = -2;", Calls.plainObjects(0, 6), "undo() = 5;"
                + "undo() = 4; undo() = 3; undo() = 2; undo() = 1; undo() = 0; undo() = -2;"
                + "objectCount() = 1");
    }

    private static void undoDepth(Sentences sentences) {
        sentences.section("Promise 29: undoDepth");
        sentences.holds("Returns how many times undo() can succeed in succession.",
                "undoDepth() = 0; undo() = -2; allocate() = 0; allocate() = 1; undoDepth() = 2;"
                + "undo() = 1; undoDepth() = 1; undo() = 0; undoDepth() = 0; undo() = -2;"
                + "undoDepth() = 0;", Calls.plainObjects(0, 7), "undoDepth() = 6; undo() = 5;"
                + "undoDepth() = 5; undo() = 4; undo() = 3; undo() = 2; undo() = 1; undoDepth() = 1;"
                + "undo() = 0; undoDepth() = 0; undo() = -2");
        sentences.holds("Returns the number of saved states.",
                "undoDepth() = 0; allocate() = 0; undoDepth() = 1; save(0) = 1; undoDepth() = 1;"
                + "setRoot(0, 0) = -9; undoDepth() = 2; setRoot(0, 0) = -2; undoDepth() = 2;"
                + "collect() = 0; undoDepth() = 3; collect() = 0; undoDepth() = 4; collect() = 0;"
                + "undoDepth() = 5; collect() = 0; undoDepth() = 6; collect() = 0; undoDepth() = 6;"
                + "root(0) = 0; undoDepth() = 6; restore(0) = 1; undoDepth() = 0");
    }

    private static void save(Sentences sentences) {
        sentences.section("Promise 30: save");
        sentences.holds("Copies the state into a snapshot slot.",
                HEAP, "save(1) = 4; undoDepth() = 6;", EMPTIED, "save(0) = 0; restore(1) = 4;", AS_BEFORE,
                "pollNotice() = 2036; restore(0) = 0; objectCount() = 0; noticeCount() = 0");
        sentences.holds("Copies the state into a snapshot slot.",
                "allocate() = 0; save(0) = 1; allocate() = 1; save(0) = 2; allocateTable() = 2;"
                + "restore(0) = 2; kind(1) = 0; kind(2) = -9; collect() = 2; save(0) = 0;"
                + "allocate() = 0; restore(0) = 0; restore(1) = -2");
        sentences.holds("0 or 1",
                "save(-1) = -1; save(0) = 0; save(1) = 0; save(2) = -1; restore(0) = 0; restore(1) = 0");
        sentences.holds("Returns the number of objects",
                "save(0) = 0;", Calls.plainObjects(0, 23), "save(0) = 24; setRoot(0, 5) = -9;"
                + "save(1) = 24; collect() = 23; save(1) = 1; undo() = 5; save(1) = 24");
        sentences.holds(SLOT_0_OR_1,
                HEAP, Calls.outside(1, "save(#) = -1;"), "restore(0) = -2; restore(1) = -2; save(1) = 4;",
                Calls.outside(1, "save(#) = -1;"), "restore(0) = -2; restore(1) = 4");
    }

    private static void restore(Sentences sentences) {
        sentences.section("Promise 31: restore");
        sentences.holds("Replaces the state by a copy of the one in a snapshot slot, which is kept.",
                HEAP, "save(0) = 4;", EMPTIED, "restore(0) = 4;", AS_BEFORE, EMPTIED, "restore(0) = 4;",
                AS_BEFORE, "removeEntry(1, 1) = 3; setField(0, 2, -9) = 2; restore(0) = 4;", AS_BEFORE,
                "undoDepth() = 0; pollNotice() = 2036; undo() = 0;", AS_BEFORE, "restore(1) = -2");
        sentences.holds("All states saved for undo() are discarded.",
                HEAP, "save(0) = 4; undoDepth() = 6; restore(0) = 4; undoDepth() = 0; undo() = -2;"
                + "allocateTable() = 4; undoDepth() = 1; undo() = 0;", AS_BEFORE, "undo() = -2;",
                Calls.each("setRoot(1, #) = -9; setRoot(1, -9) = #;", 0, 1, 2, 3), "undoDepth() = 6;"
                + "undo() = 5; root(1) = 3; undo() = 4; undo() = 3; undo() = 2; undo() = 1; undo() = 0;"
                + "root(1) = -9; undo() = -2");
        sentences.holds("0 or 1",
                "save(0) = 0; allocate() = 0; save(1) = 1; restore(-1) = -1; restore(0) = 0;"
                + "restore(1) = 1; restore(2) = -1");
        sentences.holds("Returns the number of objects afterwards",
                "save(0) = 0;", Calls.plainObjects(0, 23), "save(1) = 24; restore(0) = 0;"
                + "objectCount() = 0; restore(1) = 24; objectCount() = 24; collect() = 24;"
                + "restore(1) = 24; restore(0) = 0");
        sentences.holds(SLOT_0_OR_1,
                HEAP, "save(0) = 4; save(1) = 4;", Calls.outside(1, "restore(#) = -1;"),
                "undoDepth() = 6; undo() = 5");
        sentences.holds("ILLEGAL_STATE if the slot is empty.",
                HEAP, "restore(0) = -2; restore(1) = -2; undoDepth() = 6; save(0) = 4;"
                + "restore(1) = -2; undoDepth() = 6; restore(0) = 4; restore(1) = -2;"
                + "save(1) = 4; restore(1) = 4");
    }
}
