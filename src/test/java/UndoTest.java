/** Promises 28 to 31: undo and snapshots. */
public final class UndoTest {
    private static final String MIN = "-2147483648";
    private static final String MAX = "2147483647";

    public static void main(String[] args) {
        Script script = new Script();
        undoing(script);
        depth(script);
        saving(script);
        restoring(script);
        script.end();
    }

    private static void undoing(Script script) {
        script.run("promise 28: each of the ten calls can be undone",
                "allocate() = 0; undo() = 0; objectCount() = 0; allocateTable() = 0; undo() = 0;"
                + "kind(0) = -9; allocate() = 0; allocateWeak(0) = 1; undo() = 1; kind(1) = -9;"
                + "setField(0, 1, 0) = -9; undo() = 1; field(0, 1) = -9; setRoot(2, 0) = -9;"
                + "undo() = 1; root(2) = -9; allocateTable() = 1; put(1, 0, 1) = -9; undo() = 2;"
                + "entryCount(1) = 0; get(1, 0) = -9; put(1, 0, 1) = -9; removeEntry(1, 0) = 1;"
                + "undo() = 3; get(1, 0) = 1; setFinalizable(0, 1) = 1; undo() = 3;"
                + "setFinalizable(0, 0) = -2; setFinalizable(0, 1) = 1; collect() = 1; undo() = 4;"
                + "noticeCount() = 0; kind(1) = 1; get(1, 0) = 1; setFinalizable(0, 1) = -2;"
                + "collect() = 1; pollNotice() = 3000; undo() = 5; noticeCount() = 1;"
                + "pollNotice() = 3000; noticeCount() = 0");
        script.run("promise 28: a collection is undone with all that it changed",
                "allocateTable() = 0; allocate() = 1; allocateWeak(1) = 2; setRoot(0, 0) = -9;"
                + "put(0, 0, 2) = -9; put(0, 1, 1) = -9; collect() = 1; lastRounds() = 1;"
                + "noticeCount() = 2; entryCount(0) = 1; target(2) = -9; undo() = 5;"
                + "lastRounds() = 0; noticeCount() = 0; entryCount(0) = 2; entryKey(0, 1) = 1;"
                + "get(0, 1) = 1; target(2) = 1; kind(1) = 0; referenceCount(1) = 3; collect() = 1");
        script.run("promise 28: undo takes the states back one by one, and there is no redo",
                "undo() = -2; allocate() = 0; allocate() = 1; undo() = 1; undo() = 0; undo() = -2;"
                + "objectCount() = 0; undoDepth() = 0; allocateTable() = 0; undo() = 0; undo() = -2");
        script.run("promise 28: of seven states the oldest is discarded",
                "allocate() = 0; allocate() = 1; allocate() = 2; allocate() = 3; allocate() = 4;"
                + "allocate() = 5; undoDepth() = 6; allocate() = 6; undoDepth() = 6; undo() = 5;"
                + "undo() = 4; undo() = 3; undo() = 2; undo() = 1; undo() = 0; objectCount() = 1;"
                + "undo() = -2; objectCount() = 1");
        script.run("promise 28: undo and new calls by turns, over the limit of six",
                "allocate() = 0; allocate() = 1; allocate() = 2; allocate() = 3; allocate() = 4;"
                + "allocate() = 5; allocate() = 6; allocate() = 7; undo() = 5; undo() = 4;"
                + "allocateTable() = 6; undoDepth() = 5; allocateTable() = 7; allocateTable() = 8;"
                + "undoDepth() = 6; undo() = 5; undo() = 4; undo() = 3; kind(6) = -9;"
                + "objectCount() = 6; undo() = 2; undo() = 1; undo() = 0; objectCount() = 3;"
                + "undo() = -2");
    }

    private static void depth(Script script) {
        script.run("promise 29: errors and queries save nothing",
                "undoDepth() = 0; allocateWeak(0) = -1; setField(0, 0, 0) = -1; setRoot(0, -9) = -2;"
                + "setRoot(9, 0) = -1; put(0, 0, 0) = -1; removeEntry(0, 0) = -1;"
                + "setFinalizable(0, 1) = -1; pollNotice() = -2; undo() = -2; undoDepth() = 0;"
                + "allocateTable() = 0; undoDepth() = 1; kind(0) = 1; field(0, 0) = -1; root(0) = -9;"
                + "target(0) = -1; get(0, 0) = -9; removeEntry(0, 0) = -2; entryCount(0) = 0;"
                + "entryKey(0, 0) = -9; lastRounds() = 0; noticeCount() = 0; objectCount() = 1;"
                + "reachableCount() = 0; markRound(0) = -9; wouldFree() = 1; retainedSize(0) = 0;"
                + "waitingEntries(0) = 0; referenceCount(0) = 0; save(0) = 1; save(2) = -1;"
                + "restore(1) = -2; restore(2) = -1; setFinalizable(0, 0) = -2; undoDepth() = 1");
        script.run("promise 29: a put of the same value is a success and is saved",
                "allocateTable() = 0; put(0, 0, 0) = -9; put(0, 0, 0) = 0; undoDepth() = 3;"
                + "collect() = 1; collect() = 0; undoDepth() = 5; undo() = 4; undoDepth() = 4");
    }

    private static void saving(Script script) {
        script.run("promise 30: save answers the number of objects; the slots are apart",
                "save(0) = 0; allocate() = 0; allocate() = 1; save(1) = 2; restore(0) = 0;"
                + "objectCount() = 0; restore(1) = 2; objectCount() = 2; allocate() = 2; save(0) = 3;"
                + "restore(1) = 2; restore(0) = 3; kind(2) = 0");
        script.run("promise 30: a slot takes the newest state",
                "allocate() = 0; save(0) = 1; allocate() = 1; save(0) = 2; collect() = 2;"
                + "restore(0) = 2");
        script.run("promise 30: wrong arguments",
                "save(2) = -1; save(-1) = -1; save(-9) = -1; save(" + MAX + ") = -1;"
                + "save(" + MIN + ") = -1; restore(0) = -2; restore(1) = -2");
        script.run("promise 30: save keeps the saved states, and undo keeps the snapshots",
                "allocate() = 0; save(0) = 1; undoDepth() = 1; undo() = 0; objectCount() = 0;"
                + "restore(0) = 1; kind(0) = 0; undo() = -2");
    }

    private static void restoring(Script script) {
        script.run("promise 31: the whole state comes back, as often as wanted",
                "allocate() = 0; allocateTable() = 1; allocateWeak(0) = 2; setFinalizable(0, 1) = 1;"
                + "setRoot(0, 1) = -9; setRoot(1, 2) = -9; put(1, 1, 2) = -9; put(1, 0, 0) = -9;"
                + "collect() = 0; setField(0, 1, 2) = -9; setFinalizable(1, 1) = 1; lastRounds() = 0;"
                + "noticeCount() = 2; target(2) = -9; save(1) = 3",
                "pollNotice() = 1002; pollNotice() = 3000; setRoot(0, -9) = 1; setRoot(1, -9) = 2;"
                + "collect() = 1; collect() = 2; allocateWeak(0) = -1; allocateTable() = 0;"
                + "restore(1) = 3; undoDepth() = 0; undo() = -2; kind(0) = 0; kind(1) = 1;"
                + "kind(2) = 2; field(0, 1) = 2; root(0) = 1; root(1) = 2; get(1, 1) = 2;"
                + "entryKey(1, 1) = 0; noticeCount() = 2; pollNotice() = 1002; pollNotice() = 3000;"
                + "setFinalizable(0, 1) = 2; removeEntry(1, 1) = 2; setField(0, 1, -9) = 2",
                "restore(1) = 3; noticeCount() = 2; setFinalizable(0, 1) = 2; get(1, 1) = 2;"
                + "entryCount(1) = 2; field(0, 1) = 2; undoDepth() = 1; undo() = 0;"
                + "setFinalizable(0, 0) = -2; undo() = -2");
        script.run("promise 31: the number of rounds belongs to the state",
                "allocateTable() = 0; allocate() = 1; setRoot(0, 0) = -9; put(0, 0, 1) = -9;"
                + "collect() = 0; lastRounds() = 1; save(0) = 2; removeEntry(0, 0) = 1;"
                + "collect() = 1; lastRounds() = 0; restore(0) = 2; lastRounds() = 1");
        script.run("promise 31: wrong arguments and an empty slot change nothing",
                "allocate() = 0; restore(2) = -1; restore(-1) = -1; restore(-9) = -1;"
                + "restore(" + MAX + ") = -1; restore(" + MIN + ") = -1; restore(0) = -2;"
                + "restore(1) = -2; undoDepth() = 1; save(0) = 1; restore(1) = -2; undoDepth() = 1;"
                + "undo() = 0");
        script.run("promise 31: a restored empty heap is a success; undo works anew after it",
                "save(0) = 0; allocate() = 0; restore(0) = 0; undoDepth() = 0; allocate() = 0;"
                + "allocate() = 1; allocate() = 2; undoDepth() = 3; undo() = 2; undo() = 1;"
                + "undo() = 0; undo() = -2; objectCount() = 0");
    }
}
