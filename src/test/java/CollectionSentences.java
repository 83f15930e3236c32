/** The description's sentences of a collection, step by step, and of notices. */
final class CollectionSentences {
    private CollectionSentences() {
    }

    static void test(Sentences sentences) {
        markingStep(sentences);
        weakStep(sentences);
        finalizeStep(sentences);
        entryStep(sentences);
        lastSteps(sentences);
        notices(sentences);
        fullQueue(sentences);
    }

    private static void markingStep(Sentences sentences) {
        sentences.holds("A collection performs these steps in this order:",
                "allocateTable() = 0; allocate() = 1; allocate() = 2; allocateWeak(2) = 3;"
                + "allocateWeak(1) = 4; setRoot(0, 0) = -9; setRoot(1, 3) = -9; put(0, 1, 4) = -9;"
                + "put(0, 2, 0) = -9; setFinalizable(2, 1) = 1; collect() = 2; target(3) = -9;"
                + "kind(1) = -9; kind(2) = 0; kind(4) = -9; pollNotice() = 1003; pollNotice() = 3002;"
                + "pollNotice() = 2001; pollNotice() = -2; entryCount(0) = 1; get(0, 2) = 0");
        sentences.holds("It marks from the objects that the roots refer to.",
                Calls.plainObjects(0, 7), Calls.counted("setRoot(#, #) = -9;", 0, 5),
                "setField(5, 2, 6) = -9; collect() = 1; kind(6) = 0; kind(7) = -9;"
                + "setRoot(5, -9) = 5; collect() = 2; objectCount() = 5");
        sentences.holds("The number of rounds of the collection is the number of rounds after round 0"
                + " that marked something.",
                "collect() = 0; lastRounds() = 0; allocateTable() = 0; put(0, 0, 0) = -9;"
                + "setRoot(0, 0) = -9; collect() = 0; lastRounds() = 0; allocate() = 1;"
                + "put(0, 0, 1) = 0; collect() = 0; lastRounds() = 1; allocate() = 2;"
                + "put(0, 1, 2) = -9; collect() = 0; lastRounds() = 2; allocateTable() = 3;"
                + "allocate() = 4; put(3, 3, 4) = -9; setFinalizable(3, 1) = 1;"
                + "removeEntry(0, 0) = 1; wouldFree() = 2; collect() = 2; lastRounds() = 0;"
                + "kind(4) = 0");
    }

    private static void weakStep(Sentences sentences) {
        sentences.holds("Every marked weak reference whose target is not marked becomes empty, in"
                + " increasing order of identifiers.",
                "allocate() = 0; allocateTable() = 1; allocateWeak(0) = 2; allocateWeak(1) = 3;"
                + "allocateWeak(0) = 4; allocateWeak(2) = 5; allocateWeak(0) = 6;"
                + "setRoot(0, 6) = -9; setRoot(1, 5) = -9; setRoot(2, 3) = -9; setRoot(3, 2) = -9;"
                + "setRoot(4, 1) = -9; collect() = 2; target(2) = -9; target(3) = 1; kind(4) = -9;"
                + "target(5) = 2; target(6) = -9; pollNotice() = 1002; pollNotice() = 1006;"
                + "pollNotice() = -2");
        sentences.holds("For each of them a notice \"weak\" is issued.",
                "allocate() = 0; allocateWeak(0) = 1; allocateWeak(0) = 2; setRoot(0, 1) = -9;"
                + "collect() = 2; noticeCount() = 1; pollNotice() = 1001; collect() = 0;"
                + "noticeCount() = 0; allocate() = 0; collect() = 1; noticeCount() = 0;"
                + "setRoot(0, -9) = 1; collect() = 1; noticeCount() = 0");
    }

    private static void finalizeStep(Sentences sentences) {
        sentences.holds("All finalizable objects that are not marked are determined.",
                Calls.plainObjects(0, 3), "setField(1, 0, 2) = -9; setField(2, 0, 3) = -9;"
                + "setRoot(0, 0) = -9;", Calls.counted("setFinalizable(#, 1) = #;", 1, 3),
                "setFinalizable(0, 1) = 4; collect() = 0; pollNotice() = 3001; pollNotice() = 3002;"
                + "pollNotice() = 3003; pollNotice() = -2; setFinalizable(0, 1) = -2");
        sentences.holds("In increasing order of identifiers, a notice \"finalize\" is issued for each"
                + " of them, and it stops being finalizable.",
                Calls.tables(0, 23), "setFinalizable(23, 1) = 1; setFinalizable(0, 1) = 2;"
                + "setFinalizable(11, 1) = 3; collect() = 21; pollNotice() = 3000;"
                + "pollNotice() = 3011; pollNotice() = 3023; pollNotice() = -2;"
                + "setFinalizable(23, 0) = -2; setFinalizable(0, 0) = -2; setFinalizable(11, 1) = 1;"
                + "collect() = 2; pollNotice() = 3011; pollNotice() = -2; collect() = 1");
        sentences.holds("Then marking is performed anew from the objects that the roots refer to and"
                + " from all these objects together.",
                "allocateTable() = 0; allocate() = 1; allocateTable() = 2; allocate() = 3;"
                + "allocate() = 4; allocate() = 5; setRoot(0, 0) = -9; setRoot(1, 4) = -9;"
                + "put(0, 1, 3) = -9; put(2, 4, 5) = -9; setFinalizable(1, 1) = 1;"
                + "setFinalizable(2, 1) = 2; wouldFree() = 0; collect() = 0; objectCount() = 6;"
                + "get(0, 1) = 3; get(2, 4) = 5; collect() = 4");
        sentences.holds("(So they and what they lead to survive this collection.)",
                Calls.plainObjects(0, 4), "allocateTable() = 5; allocateWeak(4) = 6;"
                + "setField(0, 2, 1) = -9; setField(1, 0, 5) = -9; put(5, 0, 2) = -9;"
                + "setField(2, 1, 6) = -9; setFinalizable(0, 1) = 1; collect() = 2; kind(0) = 0;"
                + "kind(1) = 0; kind(2) = 0; kind(3) = -9; kind(4) = -9; kind(5) = 1; kind(6) = 2;"
                + "collect() = 5");
    }

    private static void entryStep(Sentences sentences) {
        sentences.holds("From every marked table, in increasing order of identifiers, the entries"
                + " whose key is not marked are removed, in the order of the entries.",
                Calls.tables(0, 3), Calls.plainObjects(4, 6), "setRoot(0, 3) = -9;"
                + "setRoot(1, 0) = -9; setFinalizable(1, 1) = 1; put(3, 6, 0) = -9;"
                + "put(3, 0, 0) = -9; put(3, 4, 0) = -9; put(3, 5, 0) = -9; put(3, 3, 3) = -9;"
                + "put(1, 5, 0) = -9; put(1, 4, 0) = -9; put(0, 4, 0) = -9; put(2, 4, 0) = -9;"
                + "collect() = 4; pollNotice() = 3001; pollNotice() = 2004; pollNotice() = 2037;"
                + "pollNotice() = 2036; pollNotice() = 2102; pollNotice() = 2100;"
                + "pollNotice() = 2101; pollNotice() = -2; entryCount(0) = 0; entryCount(1) = 0;"
                + "entryCount(3) = 2; entryKey(3, 0) = 0; entryKey(3, 1) = 3; get(3, 0) = 0;"
                + "get(3, 3) = 3");
        sentences.holds("From every marked table, in increasing order of identifiers, the entries"
                + " whose key is not marked are removed, in the order of the entries.",
                Calls.tables(0, 23), Calls.counted("put(22, #, 23) = -9;", 5, 10),
                "put(23, 22, 23) = -9; put(23, 23, 23) = -9; put(23, 0, 0) = -9; setRoot(0, 23) = -9;"
                + "collect() = 23; pollNotice() = 2758; pollNotice() = 2736; pollNotice() = -2;"
                + "entryCount(23) = 1; entryKey(23, 0) = 23");
        sentences.holds("For each of them a notice \"entry\" is issued.",
                "allocateTable() = 0; allocateTable() = 1; allocate() = 2; setRoot(0, 0) = -9;"
                + "put(0, 2, 2) = -9; put(0, 1, 1) = -9; put(1, 2, 2) = -9; collect() = 2;"
                + "noticeCount() = 2; pollNotice() = 2002; pollNotice() = 2001; collect() = 0;"
                + "noticeCount() = 0");
    }

    private static void lastSteps(Sentences sentences) {
        sentences.holds("Every marked weak reference whose target is not marked becomes empty,"
                + " without a notice.",
                "allocate() = 0; allocateWeak(0) = 1; allocateWeak(1) = 2; setFinalizable(2, 1) = 1;"
                + "collect() = 2; target(2) = -9; pollNotice() = 3002; pollNotice() = -2;"
                + "setRoot(0, 2) = -9; collect() = 0; noticeCount() = 0");
        sentences.holds("(Only weak references that step 3 brought back can be concerned.)",
                "allocate() = 0; allocate() = 1; allocateWeak(0) = 2; allocateWeak(0) = 3;"
                + "allocateWeak(1) = 4; setField(1, 0, 3) = -9; setField(1, 1, 4) = -9;"
                + "setRoot(0, 2) = -9; setFinalizable(1, 1) = 1; collect() = 1; target(2) = -9;"
                + "target(3) = -9; target(4) = 1; pollNotice() = 1002; pollNotice() = 3001;"
                + "pollNotice() = -2");
        sentences.holds("Every object that is not marked is freed.",
                Calls.plainObjects(0, 20), "allocateTable() = 21; allocateTable() = 22;"
                + "allocateWeak(22) = 23; put(21, 22, 23) = -9; setField(0, 0, 20) = -9;"
                + "setField(20, 0, 0) = -9; collect() = 24; objectCount() = 0; noticeCount() = 0;",
                Calls.counted("kind(#) = -9;", 0, 23), "allocate() = 0; field(0, 0) = -9;"
                + "setRoot(0, 0) = -9; collect() = 0; objectCount() = 1");
    }

    private static void notices(Sentences sentences) {
        sentences.holds("A notice is a number: 1000 plus the identifier of the weak reference;",
                "allocate() = 0; allocate() = 1; setRoot(0, 1) = -9; collect() = 1;"
                + "allocateWeak(1) = 0;", Calls.plainObjects(2, 22), "allocateWeak(1) = 23;"
                + "setRoot(0, 0) = 1; setRoot(1, 23) = -9; collect() = 22; pollNotice() = 1000;"
                + "pollNotice() = 1023; pollNotice() = -2");
        sentences.holds("2000 plus 32 times the identifier of the table plus the identifier of the"
                + " key;",
                Calls.tables(0, 23), "setRoot(0, 23) = -9; setRoot(1, 1) = -9; put(23, 22, 0) = -9;"
                + "put(23, 0, 0) = -9; put(1, 0, 0) = -9; put(1, 23, 0) = -9; put(1, 22, 0) = -9;"
                + "put(1, 2, 0) = -9; removeEntry(1, 23) = 0; collect() = 22; pollNotice() = 2032;"
                + "pollNotice() = 2054; pollNotice() = 2034; pollNotice() = 2758;"
                + "pollNotice() = 2736; pollNotice() = -2");
        sentences.holds("2000 plus 32 times the identifier of the table plus the identifier of the"
                + " key;",
                "allocateTable() = 0;", Calls.plainObjects(1, 23), "setRoot(0, 0) = -9;"
                + "put(0, 1, 0) = -9; put(0, 23, 0) = -9; collect() = 23; pollNotice() = 2001;"
                + "pollNotice() = 2023; pollNotice() = -2");
        sentences.holds("3000 plus the identifier of the finalizable object.",
                Calls.plainObjects(0, 23), "setFinalizable(0, 1) = 1; setFinalizable(23, 1) = 2;"
                + "collect() = 22; pollNotice() = 3000; pollNotice() = 3023; pollNotice() = -2");
    }

    private static void fullQueue(Sentences sentences) {
        sentences.holds("Notices are kept in a queue of at most 20 notices.",
                Calls.plainObjects(0, 19), Calls.finalizable(0, 19), "collect() = 0; noticeCount() = 20;",
                polls(3000, 3019), "noticeCount() = 0; pollNotice() = -2");
        String dropped = "When a notice is issued and the queue is full, the oldest notice is dropped.";
        sentences.holds(dropped,
                Calls.plainObjects(0, 20), Calls.finalizable(0, 20), "collect() = 0; noticeCount() = 20;",
                polls(3001, 3020), "noticeCount() = 0; pollNotice() = -2");
        sentences.holds(dropped,
                Calls.tables(0, 5), Calls.counted("setRoot(#, #) = -9;", 0, 5),
                Calls.plainObjects(6, 11),
                Calls.counted("put(0, #, 0) = -9; put(1, #, 0) = -9; put(2, #, 0) = -9;"
                + "put(3, #, 0) = -9; put(4, #, 0) = -9; put(5, #, 0) = -9;", 6, 11),
                "collect() = 6; noticeCount() = 20; pollNotice() = 2074; pollNotice() = 2075;"
                + "pollNotice() = 2102; noticeCount() = 17;", Calls.plainObjects(6, 9),
                Calls.counted("put(0, #, 0) = -9;", 6, 9), "collect() = 4; noticeCount() = 20;",
                polls(2104, 2107), polls(2134, 2139), polls(2166, 2171), polls(2006, 2009),
                "pollNotice() = -2; noticeCount() = 0");
    }

    private static String polls(int first, int last) {
        return Calls.counted("pollNotice() = #;", first, last);
    }
}
