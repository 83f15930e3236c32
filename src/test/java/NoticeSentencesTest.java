import java.io.IOException;

/** The sentences of promises 17 to 20, each with a test of its own. */
public final class NoticeSentencesTest {
    public static void main(String[] args) throws IOException {
        Sentences sentences = new Sentences();
        collect(sentences);
        lastRounds(sentences);
        pollNotice(sentences);
        noticeCount(sentences);
        sentences.end();
    }

    private static void collect(Sentences sentences) {
        sentences.section("Promise 17: collect");
        sentences.holds("Performs a collection.",
                "allocateTable() = 0; allocate() = 1; allocateWeak(1) = 2; allocate() = 3;"
                + "setRoot(0, 0) = -9; setRoot(1, 2) = -9; put(0, 1, 3) = -9; put(0, 0, 2) = -9;"
                + "setFinalizable(3, 1) = 1; collect() = 1; kind(1) = -9; kind(3) = 0;"
                + "target(2) = -9; entryCount(0) = 1; entryKey(0, 0) = 0; setFinalizable(3, 0) = -2;"
                + "pollNotice() = 1002; pollNotice() = 3003; pollNotice() = 2001; pollNotice() = -2");
        sentences.holds("Returns the number of objects freed.", "collect() = 0; collect() = 0");
        sentences.holds("Returns the number of objects freed.",
                Calls.plainObjects(0, 23), "collect() = 24; collect() = 0;", Calls.plainObjects(0, 23),
                "setRoot(0, 23) = -9; collect() = 23; collect() = 0; objectCount() = 1;"
                + "setFinalizable(23, 1) = 1; setRoot(0, -9) = 23; collect() = 0; collect() = 1");
    }

    private static void lastRounds(Sentences sentences) {
        sentences.section("Promise 18: lastRounds");
        sentences.holds("Returns the number of rounds of the last collection.",
                Calls.tables(0, 2), "setRoot(0, 0) = -9;", Calls.entryChain(0, 2), "collect() = 0;"
                + "lastRounds() = 2; removeEntry(1, 1) = 2; markRound(1) = 1; wouldFree() = 1;"
                + "reachableCount() = 2; retainedSize(1) = 1; lastRounds() = 2; collect() = 1;"
                + "lastRounds() = 1; setRoot(0, -9) = 0; lastRounds() = 1; collect() = 2;"
                + "lastRounds() = 0; undo() = 5; lastRounds() = 1; undoDepth() = 5");
        sentences.holds("Returns that number;",
                Calls.tables(0, 23), Calls.entryChain(0, 23), "setRoot(0, 0) = -9; collect() = 0;"
                + "lastRounds() = 23; setRoot(1, 12) = -9; collect() = 0; lastRounds() = 11;"
                + "setRoot(2, 6) = -9; setRoot(3, 18) = -9; collect() = 0; lastRounds() = 5");
        sentences.holds("0 if there was no collection.",
                "lastRounds() = 0; allocateTable() = 0; allocate() = 1; setRoot(0, 0) = -9;"
                + "put(0, 0, 1) = -9; markRound(1) = 1; wouldFree() = 0; lastRounds() = 0;"
                + "save(0) = 2; collect() = 0; lastRounds() = 1; undo() = 4; lastRounds() = 0;"
                + "collect() = 0; restore(0) = 2; lastRounds() = 0");
    }

    private static void pollNotice(Sentences sentences) {
        sentences.section("Promise 19: pollNotice");
        sentences.holds("Removes the oldest notice from the queue.",
                Calls.plainObjects(0, 2), "setFinalizable(2, 1) = 1; setFinalizable(0, 1) = 2;"
                + "collect() = 1; allocate() = 1; setFinalizable(1, 1) = 1; collect() = 2;"
                + "noticeCount() = 3; pollNotice() = 3000; noticeCount() = 2; pollNotice() = 3002;"
                + "undo() = 5; pollNotice() = 3002; pollNotice() = 3001; noticeCount() = 0");
        sentences.holds("Returns the notice;",
                Calls.plainObjects(0, 19), Calls.finalizable(0, 19), "collect() = 0;",
                Calls.counted("pollNotice() = #;", 3000, 3019), "pollNotice() = -2;",
                "setFinalizable(19, 1) = 1; collect() = 19; pollNotice() = 3019; pollNotice() = -2");
        sentences.holds("ILLEGAL_STATE if the queue is empty.",
                "pollNotice() = -2; undoDepth() = 0; allocate() = 0; setFinalizable(0, 1) = 1;"
                + "pollNotice() = -2; collect() = 0; pollNotice() = 3000; pollNotice() = -2;"
                + "pollNotice() = -2; undoDepth() = 4; undo() = 3; pollNotice() = 3000; undo() = 3;"
                + "undo() = 2; pollNotice() = -2");
    }

    private static void noticeCount(Sentences sentences) {
        sentences.section("Promise 20: noticeCount");
        sentences.holds("Counts the notices in the queue.",
                "allocate() = 0; allocateWeak(0) = 1; allocateTable() = 2; put(2, 0, 0) = -9;"
                + "setRoot(0, 1) = -9; setRoot(1, 2) = -9; noticeCount() = 0; wouldFree() = 1;"
                + "noticeCount() = 0; collect() = 1; noticeCount() = 2; collect() = 0;"
                + "noticeCount() = 2; pollNotice() = 1001; noticeCount() = 1; undo() = 5;"
                + "noticeCount() = 2; undo() = 4; undo() = 3; noticeCount() = 0");
        sentences.holds("Returns the number of notices.",
                "noticeCount() = 0;", Calls.plainObjects(0, 23), Calls.finalizable(0, 18),
                "collect() = 5; noticeCount() = 19; setFinalizable(7, 1) = 1; collect() = 18;"
                + "noticeCount() = 20; setFinalizable(7, 1) = 1; collect() = 0; noticeCount() = 20;"
                + "pollNotice() = 3001; noticeCount() = 19; collect() = 1; noticeCount() = 19");
    }
}
