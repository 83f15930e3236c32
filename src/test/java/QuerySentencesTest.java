import java.io.IOException;

/** The sentences of promises 21 to 27, each with a test of its own. */
public final class QuerySentencesTest {
    /** A plain object 0, a table 1, a weak reference 2, none of them reachable; 3 was freed. */
    private static final String HEAP = "allocate() = 0; allocateTable() = 1; allocateWeak(0) = 2;"
            + "allocate() = 3; setRoot(0, 0) = -9; setRoot(1, 1) = -9; setRoot(2, 2) = -9;"
            + "collect() = 1; setRoot(0, -9) = 0; setRoot(1, -9) = 1; setRoot(2, -9) = 2;";
    private static final String NOT_ALLOCATED = "INVALID_ARGUMENT if object is not allocated";

    public static void main(String[] args) throws IOException {
        Sentences sentences = new Sentences();
        objectCount(sentences);
        reachableCount(sentences);
        markRound(sentences);
        wouldFree(sentences);
        retainedSize(sentences);
        retainedThroughTables(sentences);
        waitingEntries(sentences);
        referenceCount(sentences);
        sentences.end();
    }

    private static void objectCount(Sentences sentences) {
        sentences.section("Promise 21: objectCount");
        sentences.holds("Counts the allocated objects.",
                HEAP, "objectCount() = 3; reachableCount() = 0; allocate() = 3; objectCount() = 4;"
                + "undo() = 5; objectCount() = 3; collect() = 3; objectCount() = 0");
        sentences.holds("Returns the number of objects.",
                "objectCount() = 0;", Calls.plainObjects(0, 22), "objectCount() = 23;"
                + "allocateTable() = 23; objectCount() = 24; allocate() = -3; objectCount() = 24;"
                + "setRoot(0, 23) = -9; collect() = 23; objectCount() = 1");
    }

    private static void reachableCount(Sentences sentences) {
        sentences.section("Promise 22: reachableCount");
        sentences.holds("Counts the reachable objects.",
                HEAP, "reachableCount() = 0; setRoot(5, 1) = -9; reachableCount() = 1;"
                + "put(1, 1, 2) = -9; reachableCount() = 2; put(1, 0, 0) = -9; reachableCount() = 2;"
                + "setRoot(4, 1) = -9; reachableCount() = 2; setFinalizable(0, 1) = 1;"
                + "reachableCount() = 2; setRoot(3, 0) = -9; reachableCount() = 3; undoDepth() = 6");
        sentences.holds("Returns the number of reachable objects.",
                "reachableCount() = 0;", Calls.tables(0, 23), "reachableCount() = 0;",
                Calls.entryChain(0, 23), "setRoot(0, 23) = -9; reachableCount() = 1;"
                + "setRoot(0, 1) = 23; reachableCount() = 23; setRoot(1, 0) = -9;"
                + "reachableCount() = 24; setRoot(0, -9) = 1; reachableCount() = 24");
    }

    private static void markRound(Sentences sentences) {
        sentences.section("Promise 23: markRound");
        sentences.holds("Returns the number of an object's mark, marking from the objects that the"
                + " roots refer to.",
                Calls.tables(0, 2), Calls.plainObjects(3, 5), Calls.entryChain(0, 2),
                "setRoot(0, 0) = -9; put(2, 1, 3) = -9; setField(3, 2, 4) = -9; markRound(0) = 0;"
                + "markRound(1) = 1; markRound(2) = 2; markRound(3) = 3; markRound(4) = 3;"
                + "markRound(5) = -9; setRoot(1, 2) = -9; markRound(2) = 0; markRound(1) = 1;"
                + "markRound(3) = 2; markRound(4) = 2; setRoot(2, 1) = -9; markRound(4) = 1");
        sentences.holds("any object",
                HEAP, Calls.counted("setRoot(#, #) = -9; markRound(#) = 0;", 0, 2));
        sentences.holds("Returns the number of the mark",
                Calls.tables(0, 23), Calls.entryChain(0, 23), "setRoot(0, 0) = -9;",
                Calls.counted("markRound(#) = #;", 0, 23), "put(0, 0, 23) = 1; markRound(23) = 1;"
                + "markRound(1) = -9; undoDepth() = 6");
        sentences.holds(NOT_ALLOCATED,
                "markRound(0) = -1;", HEAP, Calls.neverAllocated("markRound(#) = -1;"),
                Calls.each("markRound(#) = -1;", 3, 4, 23));
        sentences.holds("NONE if it is not reachable.",
                HEAP, Calls.counted("markRound(#) = -9;", 0, 2), "setFinalizable(0, 1) = 1;"
                + "markRound(0) = -9; setRoot(0, 2) = -9; markRound(0) = -9; markRound(2) = 0;"
                + "setField(0, 0, 0) = -9; markRound(0) = -9; put(1, 0, 1) = -9; markRound(1) = -9");
    }

    private static void wouldFree(Sentences sentences) {
        sentences.section("Promise 24: wouldFree");
        sentences.holds("Predicts how many objects a collection would free now.",
                HEAP, "wouldFree() = 3; wouldFree() = 3; setRoot(0, 1) = -9; wouldFree() = 2;"
                + "setFinalizable(2, 1) = 1; wouldFree() = 1; objectCount() = 3; noticeCount() = 0;"
                + "lastRounds() = 0; target(2) = 0; setFinalizable(2, 1) = -2; undoDepth() = 6");
        sentences.holds("Returns what collect() would return.",
                "wouldFree() = 0; collect() = 0;", Calls.plainObjects(0, 23), "wouldFree() = 24;"
                + "setRoot(0, 23) = -9; wouldFree() = 23; setFinalizable(23, 1) = 1;"
                + "wouldFree() = 23; collect() = 23; wouldFree() = 0; collect() = 0;"
                + "setRoot(0, -9) = 23; wouldFree() = 0; collect() = 0; wouldFree() = 1; collect() = 1;"
                + "wouldFree() = 0");
        sentences.holds("Returns what collect() would return.",
                "allocateTable() = 0; allocate() = 1; allocateTable() = 2; allocate() = 3;"
                + "allocateWeak(3) = 4; setRoot(0, 0) = -9; put(0, 1, 2) = -9; put(2, 0, 4) = -9;"
                + "setFinalizable(1, 1) = 1; wouldFree() = 1; collect() = 1; target(4) = -9;"
                + "wouldFree() = 3; collect() = 3");
    }

    private static void retainedSize(Sentences sentences) {
        sentences.section("Promise 25: retainedSize");
        String size = "Returns the retained size of an object: the number of objects that are"
                + " reachable now, but would not be reachable if the given object could not be"
                + " marked.";
        sentences.holds(size,
                Calls.plainObjects(0, 23), Calls.fieldChain(0, 23), "setRoot(0, 0) = -9;"
                + "retainedSize(0) = 24; retainedSize(1) = 23; retainedSize(23) = 1;"
                + "setRoot(1, 0) = -9; retainedSize(0) = 24; setRoot(2, 12) = -9;"
                + "retainedSize(0) = 12; retainedSize(11) = 1; retainedSize(12) = 12;"
                + "setField(12, 1, 14) = -9; retainedSize(13) = 1; undoDepth() = 6");
        sentences.holds(size,
                Calls.plainObjects(0, 4), "setRoot(0, 0) = -9; setField(0, 0, 1) = -9;"
                + "setField(0, 1, 2) = -9; setField(1, 0, 3) = -9; setField(2, 0, 3) = -9;"
                + "setField(3, 0, 0) = -9; setField(4, 0, 3) = -9; retainedSize(1) = 1;"
                + "retainedSize(2) = 1; retainedSize(3) = 1; retainedSize(0) = 4;"
                + "retainedSize(4) = 0; setField(2, 0, -9) = 3; retainedSize(1) = 2");
        sentences.holds("any object",
                HEAP, Calls.counted("retainedSize(#) = 0; setRoot(#, #) = -9; retainedSize(#) = 1;", 0, 2));
        sentences.holds("Returns that number, the object itself included",
                "allocate() = 0; allocate() = 1; setRoot(0, 0) = -9; retainedSize(0) = 1;"
                + "setField(0, 0, 0) = -9; retainedSize(0) = 1; setField(0, 1, 1) = -9;"
                + "retainedSize(0) = 2; setRoot(1, 1) = -9; retainedSize(0) = 1");
        sentences.holds("0 if the object is not reachable",
                HEAP, "setField(0, 0, 1) = -9; setFinalizable(0, 1) = 1; setRoot(0, 2) = -9;"
                + "retainedSize(0) = 0; retainedSize(1) = 0; retainedSize(2) = 1");
        sentences.holds(NOT_ALLOCATED,
                "retainedSize(0) = -1;", HEAP, Calls.neverAllocated("retainedSize(#) = -1;"),
                Calls.each("retainedSize(#) = -1;", 3, 4, 23));
    }

    private static void retainedThroughTables(Sentences sentences) {
        String size = "would not be reachable if the given object could not be marked.";
        sentences.holds(size,
                "allocateTable() = 0; allocate() = 1; allocate() = 2; allocate() = 3;"
                + "setRoot(0, 0) = -9; setRoot(1, 1) = -9; put(0, 1, 2) = -9; put(0, 2, 3) = -9;"
                + "retainedSize(0) = 3; retainedSize(1) = 3; retainedSize(2) = 2;"
                + "retainedSize(3) = 1; put(0, 0, 3) = -9; retainedSize(1) = 2; retainedSize(2) = 1;"
                + "setRoot(2, 2) = -9; retainedSize(0) = 2; retainedSize(1) = 1");
        sentences.holds(size,
                Calls.tables(0, 23), Calls.entryChain(0, 23), "setRoot(0, 0) = -9;"
                + "retainedSize(0) = 24; retainedSize(12) = 12; retainedSize(23) = 1;"
                + "put(0, 0, 23) = 1; retainedSize(0) = 2; retainedSize(1) = 0");
    }

    private static void waitingEntries(Sentences sentences) {
        sentences.section("Promise 26: waitingEntries");
        sentences.holds("Counts the entries that wait for a key: the entries of reachable tables that"
                + " have the given object as their key, if that object is not reachable.",
                Calls.tables(0, 2), Calls.plainObjects(3, 5), "put(0, 3, 4) = -9; put(1, 3, 0) = -9;"
                + "put(2, 3, 3) = -9; put(0, 4, 5) = -9; put(0, 5, 3) = -9; waitingEntries(3) = 0;"
                + "setRoot(0, 0) = -9; waitingEntries(3) = 1; waitingEntries(4) = 1;"
                + "waitingEntries(5) = 1; put(0, 0, 1) = -9; waitingEntries(3) = 2;"
                + "setRoot(1, 2) = -9; waitingEntries(3) = 3; removeEntry(1, 3) = 0;"
                + "waitingEntries(3) = 2; undoDepth() = 6");
        sentences.holds("any object",
                Calls.tables(0, 1), "allocate() = 2; allocateWeak(2) = 3; setRoot(0, 0) = -9;",
                Calls.counted("waitingEntries(#) = 0; put(0, #, #) = -9; waitingEntries(#) = 1;", 1, 3));
        sentences.holds("Returns the number of these entries",
                Calls.tables(0, 22), "allocate() = 23;", Calls.entryChain(0, 22),
                Calls.counted("put(#, 23, #) = -9;", 0, 22), "waitingEntries(23) = 0;"
                + "setRoot(0, 0) = -9; waitingEntries(23) = 23; setRoot(0, 22) = 0;"
                + "waitingEntries(23) = 1; waitingEntries(22) = 0; waitingEntries(0) = 0");
        sentences.holds("Returns the number of these entries",
                Calls.tables(0, 23), "put(23, 22, 0) = -9; put(0, 22, 0) = -9; setRoot(0, 23) = -9;"
                + "waitingEntries(22) = 1; setRoot(1, 0) = -9; waitingEntries(22) = 2;"
                + "waitingEntries(0) = 0; waitingEntries(23) = 0");
        sentences.holds("0 if key is reachable",
                "allocateTable() = 0; allocate() = 1; setRoot(0, 0) = -9; put(0, 0, 0) = -9;"
                + "waitingEntries(0) = 0; put(0, 1, 1) = -9; waitingEntries(1) = 1;"
                + "setRoot(1, 1) = -9; waitingEntries(1) = 0; setRoot(1, -9) = 1;"
                + "waitingEntries(1) = 1; put(0, 0, 1) = 0; waitingEntries(1) = 0");
        sentences.holds("INVALID_ARGUMENT if key is not allocated.",
                "waitingEntries(0) = -1;", HEAP, Calls.neverAllocated("waitingEntries(#) = -1;"),
                Calls.each("waitingEntries(#) = -1;", 3, 4, 23));
    }

    private static void referenceCount(Sentences sentences) {
        sentences.section("Promise 27: referenceCount");
        sentences.holds("Counts the references to an object: the roots, the fields, the values of"
                + " entries, the keys of entries and the targets of weak references that refer to it,"
                + " each counted singly.",
                "allocate() = 0; allocateTable() = 1; referenceCount(0) = 0;",
                Calls.counted("setRoot(#, 0) = -9;", 0, 5), "referenceCount(0) = 6;",
                Calls.counted("setField(0, #, 0) = -9;", 0, 2), "referenceCount(0) = 9;"
                + "put(1, 1, 0) = -9; referenceCount(0) = 10; referenceCount(1) = 1;"
                + "put(1, 0, 0) = -9; referenceCount(0) = 12; put(1, 0, 1) = 0;"
                + "referenceCount(0) = 11; referenceCount(1) = 2; allocateWeak(0) = 2;"
                + "allocateWeak(0) = 3; referenceCount(0) = 13; removeEntry(1, 0) = 1;"
                + "referenceCount(0) = 12; setRoot(5, -9) = 0; setField(0, 0, -9) = 0;"
                + "referenceCount(0) = 10; collect() = 3; referenceCount(0) = 7; undoDepth() = 6");
        sentences.holds("Objects that are not reachable count as well.",
                HEAP, "reachableCount() = 0; referenceCount(0) = 1; setField(0, 0, 0) = -9;"
                + "put(1, 0, 0) = -9; referenceCount(0) = 4; reachableCount() = 0; collect() = 3;"
                + "allocate() = 0; referenceCount(0) = 0");
        sentences.holds("any object",
                HEAP, "put(1, 2, 1) = -9; referenceCount(0) = 1; referenceCount(1) = 1;"
                + "referenceCount(2) = 1");
        sentences.holds("Returns the number of references",
                Calls.tables(0, 23), "referenceCount(23) = 0;", Calls.counted("put(#, 23, 23) = -9;"
                + "put(#, 22, 23) = -9;", 0, 23), "referenceCount(23) = 72; referenceCount(22) = 24;"
                + "referenceCount(0) = 0");
        sentences.holds(NOT_ALLOCATED,
                "referenceCount(0) = -1;", HEAP, Calls.neverAllocated("referenceCount(#) = -1;"),
                Calls.each("referenceCount(#) = -1;", 3, 4, 23));
    }
}
