/** The description's sentences of errors. */
final class ErrorSentences {
    /** 0 plain, 1 table, 2 weak, both snapshots, six saved states and two notices. */
    private static final String FILLED = "allocate() = 0; allocateTable() = 1; allocateWeak(0) = 2;"
            + "setRoot(0, 0) = -9; setRoot(1, 1) = -9; setRoot(2, 2) = -9; put(1, 0, 2) = -9;"
            + "allocate() = 3; put(1, 3, 3) = -9; setFinalizable(0, 1) = 1; save(0) = 4;"
            + "allocateWeak(3) = 4; setRoot(3, 4) = -9; collect() = 1; noticeCount() = 2;"
            + "setField(0, 0, 0) = -9; undoDepth() = 6; save(1) = 4;";
    private static final String FULL_TABLE = Calls.plainObjects(5, 9)
            + Calls.counted("put(1, #, 0) = -9;", 5, 9);

    private ErrorSentences() {
    }

    static void test(Sentences sentences) {
        nothingChanges(sentences);
        firstListed(sentences);
        notAllocated(sentences);
    }

    /** Script itself sees to it that a refused call leaves no trace, here in a heap with much to lose. */
    private static void nothingChanges(Sentences sentences) {
        String nothing = "A call that returns an error code changes nothing.";
        sentences.holds(nothing, FILLED,
                "allocateWeak(3) = -1; setField(1, 0, 0) = -1; setField(0, 3, 0) = -1;"
                + "setField(0, 1, 3) = -1; setField(0, 0, 0) = -2; setField(0, 1, -9) = -2;"
                + "setRoot(6, 0) = -1; setRoot(-1, 0) = -1; setRoot(4, 3) = -1; setRoot(0, 0) = -2;"
                + "setRoot(5, -9) = -2; setFinalizable(3, 1) = -1; setFinalizable(0, 2) = -1;"
                + "setFinalizable(0, 1) = -2; setFinalizable(1, 0) = -2; put(0, 0, 0) = -1;"
                + "put(1, 3, 0) = -1; put(1, 0, 3) = -1; removeEntry(0, 0) = -1;"
                + "removeEntry(1, 3) = -1; removeEntry(1, 1) = -2; save(2) = -1; save(-1) = -1;"
                + "restore(2) = -1; restore(-1) = -1");
        sentences.holds(nothing, FILLED, "allocate() = 3;", FULL_TABLE,
                "put(1, 2, 0) = -3; put(1, 3, 0) = -3; put(1, 1, 1) = -3; put(1, 10, 0) = -1;"
                + "put(1, 9, 10) = -1");
        sentences.holds(nothing, FILLED, "allocate() = 3;", Calls.plainObjects(5, 23),
                "allocate() = -3; allocateTable() = -3; allocateWeak(0) = -3; allocateWeak(24) = -1");
        sentences.holds(nothing, FILLED, "pollNotice() = 1004; pollNotice() = 2035; pollNotice() = -2");
        sentences.holds(nothing, "allocate() = 0; restore(0) = -2; restore(1) = -2; undoDepth() = 1;"
                + "save(1) = 1; restore(0) = -2; undo() = 0; undo() = -2; restore(0) = -2");
    }

    private static void firstListed(Sentences sentences) {
        String first = "If several error conditions apply, the method returns the one that its"
                + " description lists first.";
        sentences.holds(first, Calls.plainObjects(0, 23),
                "allocateWeak(24) = -1; allocateWeak(-9) = -1; allocateWeak(23) = -3");
        sentences.holds(first, "allocate() = 0; allocateTable() = 1; setField(1, 0, -9) = -1;"
                + "setField(2, 0, -9) = -1; setField(0, 3, -9) = -1; setField(0, -1, -9) = -1;"
                + "setField(0, 2, -9) = -2; field(1, 0) = -1; field(0, 3) = -1; field(0, 2) = -9");
        sentences.holds(first, "setRoot(6, -9) = -1; setRoot(-1, -9) = -1; setRoot(5, -9) = -2;"
                + "root(6) = -1; root(5) = -9");
        sentences.holds(first, "allocate() = 0; setFinalizable(1, 0) = -1; setFinalizable(-9, 0) = -1;"
                + "setFinalizable(0, -1) = -1; setFinalizable(0, 0) = -2; setFinalizable(0, 1) = 1;"
                + "setFinalizable(0, 2) = -1; setFinalizable(0, 1) = -2");
        sentences.holds(first, FILLED, "allocate() = 3;", FULL_TABLE,
                "put(1, 10, 0) = -1; put(1, 2, 10) = -1; put(1, -9, 0) = -1; put(1, 2, -9) = -1;"
                + "put(10, 2, 0) = -1; put(1, 2, 0) = -3; get(1, 10) = -1; get(1, 2) = -9;"
                + "removeEntry(1, 10) = -1; removeEntry(0, 2) = -1; removeEntry(1, 2) = -2");
        sentences.holds(first, "allocate() = 0; allocateTable() = 1; entryKey(0, 6) = -1;"
                + "entryKey(2, 0) = -1; entryKey(1, -9) = -1; entryKey(1, 6) = -9;"
                + "markRound(2) = -1; markRound(0) = -9; restore(2) = -1; restore(-9) = -1;"
                + "restore(1) = -2");
    }

    private static void notAllocated(Sentences sentences) {
        String means = "Where a parameter is an object, \"not allocated\" means that no allocated"
                + " object has this identifier.";
        String heap = "allocateTable() = 0; allocate() = 1; setRoot(0, 0) = -9; setRoot(1, 1) = -9;"
                + "put(0, 1, 1) = -9; allocate() = 2; allocateTable() = 3; allocateWeak(1) = 4;"
                + "put(3, 1, 2) = -9; setField(2, 0, 1) = -9; setFinalizable(4, 1) = 1;"
                + "setFinalizable(4, 0) = 0; collect() = 3;";
        String asObject = "kind(#) = -9; setField(#, 0, 1) = -1; field(#, 0) = -1; target(#) = -1;"
                + "setFinalizable(#, 1) = -1; put(#, 1, 1) = -1; get(#, 1) = -1;"
                + "removeEntry(#, 1) = -1; entryCount(#) = -1; entryKey(#, 0) = -1;";
        String asContent = "allocateWeak(#) = -1; put(0, #, 1) = -1; put(0, 1, #) = -1;"
                + "get(0, #) = -1; removeEntry(0, #) = -1; markRound(#) = -1; retainedSize(#) = -1;"
                + "waitingEntries(#) = -1; referenceCount(#) = -1;";
        String asTarget = "setField(1, 0, #) = -1; setRoot(2, #) = -1;";
        int[] freedOrNew = {2, 3, 4, 5, 23};
        sentences.holds(means, heap, Calls.each(asObject + asContent + asTarget, freedOrNew));
        sentences.holds(means, heap, Calls.neverAllocated(asObject + asContent));
        // NONE is no object, but "empty" as the content of a field or of a root that is empty already.
        sentences.holds(means, heap, Calls.neverAllocated(asTarget)
                .replace("(1, 0, -9) = -1", "(1, 0, -9) = -2").replace("(2, -9) = -1", "(2, -9) = -2"));
        sentences.holds(means, heap, "kind(2) = -9; allocate() = 2; kind(2) = 0; setField(2, 0, 2) = -9;"
                + "undo() = 5; undo() = 4; setField(2, 0, 2) = -1; setRoot(2, 2) = -1");
    }
}
