/** Promises 17 to 20: collections, step by step, and the queue of notices. */
public final class CollectionTest {
    public static void main(String[] args) {
        Script script = new Script();
        freeing(script);
        weakReferences(script);
        finalizers(script);
        entries(script);
        rounds(script);
        polling(script);
        fullQueue(script);
        script.end();
    }

    private static void freeing(Script script) {
        script.run("promise 17: what no root leads to is freed, cycles too",
                "allocate() = 0; allocate() = 1; allocate() = 2; allocate() = 3; setField(0, 2, 1) = -9;"
                + "setField(2, 0, 3) = -9; setField(3, 1, 2) = -9; setField(2, 1, 0) = -9;"
                + "setRoot(5, 0) = -9; collect() = 2; kind(0) = 0; kind(1) = 0; kind(2) = -9;"
                + "kind(3) = -9; field(0, 2) = 1; root(5) = 0; objectCount() = 2; noticeCount() = 0;"
                + "collect() = 0; setRoot(5, -9) = 0; collect() = 2; objectCount() = 0");
        script.run("promise 17: keys and targets are not kept by what refers to them",
                "allocateTable() = 0; allocate() = 1; allocate() = 2; allocateWeak(2) = 3;"
                + "put(0, 1, 0) = -9; setRoot(0, 0) = -9; setRoot(1, 3) = -9; collect() = 2;"
                + "kind(1) = -9; kind(2) = -9; entryCount(0) = 0; target(3) = -9;"
                + "pollNotice() = 1003; pollNotice() = 2001; pollNotice() = -2");
        script.run("promise 17: a collection of an empty heap succeeds and saves a state",
                "collect() = 0; undoDepth() = 1; collect() = 0; undoDepth() = 2");
        script.run("promise 17: a freed identifier may become another kind",
                "allocateTable() = 0; put(0, 0, 0) = -9; collect() = 1; allocate() = 0; allocate() = 1;"
                + "setRoot(0, 0) = -9; reachableCount() = 1; field(0, 0) = -9; collect() = 1;"
                + "allocateWeak(0) = 1; setRoot(0, 1) = 0; collect() = 1; allocate() = 0;"
                + "field(0, 0) = -9; setRoot(1, 0) = -9; collect() = 0; pollNotice() = 1001;"
                + "pollNotice() = -2");
    }

    private static void weakReferences(Script script) {
        script.run("promise 17: weak references are emptied in increasing order of identifiers",
                "allocate() = 0; allocateWeak(0) = 1; allocateWeak(0) = 2; allocateWeak(0) = 3;"
                + "setRoot(0, 3) = -9; setRoot(1, 1) = -9; collect() = 2; pollNotice() = 1001;"
                + "pollNotice() = 1003; pollNotice() = -2; collect() = 0; noticeCount() = 0");
        script.run("promise 17: the weak references with the smallest and the largest identifier",
                "allocate() = 0; allocate() = 1; setRoot(0, 1) = -9; collect() = 1;"
                + "allocateWeak(1) = 0;" + Calls.tables(2, 22) + "allocateWeak(1) = 23;"
                + "setRoot(0, 0) = 1; setRoot(1, 23) = -9; collect() = 22; target(0) = -9;"
                + "target(23) = -9; pollNotice() = 1000; pollNotice() = 1023; pollNotice() = -2");
        script.run("promise 17: a weak reference to a marked object stays",
                "allocate() = 0; allocateWeak(0) = 1; setRoot(0, 0) = -9; setRoot(1, 1) = -9;"
                + "allocateWeak(1) = 2; setRoot(2, 2) = -9; collect() = 0; target(1) = 0;"
                + "target(2) = 1; noticeCount() = 0");
        script.run("promise 17: step 2 empties before step 3 brings the target back",
                "allocate() = 0; allocateWeak(0) = 1; setRoot(0, 1) = -9; setFinalizable(0, 1) = 1;"
                + "collect() = 0; target(1) = -9; kind(0) = 0; pollNotice() = 1001;"
                + "pollNotice() = 3000; pollNotice() = -2");
        script.run("promise 17: a weak reference that step 3 brought back loses its target silently",
                "allocate() = 0; allocate() = 1; allocateWeak(1) = 2; setField(0, 0, 2) = -9;"
                + "setFinalizable(0, 1) = 1; collect() = 1; kind(1) = -9; kind(2) = 2; target(2) = -9;"
                + "pollNotice() = 3000; pollNotice() = -2");
        script.run("promise 17: it keeps a target that step 3 brought back too",
                "allocate() = 0; allocate() = 1; allocateWeak(1) = 2; setField(0, 0, 2) = -9;"
                + "setField(0, 1, 1) = -9; setFinalizable(0, 1) = 1; collect() = 0; target(2) = 1;"
                + "pollNotice() = 3000; pollNotice() = -2");
        script.run("promise 17: a finalizable weak reference that is not reachable",
                "allocate() = 0; allocateWeak(0) = 1; setFinalizable(1, 1) = 1; collect() = 1;"
                + "kind(1) = 2; target(1) = -9; pollNotice() = 3001; pollNotice() = -2; collect() = 1");
    }

    private static void finalizers(Script script) {
        script.run("promise 17: finalizable objects come in increasing order, with what they lead to",
                "allocate() = 0; allocateTable() = 1; allocate() = 2; allocate() = 3; allocate() = 4;"
                + "setFinalizable(2, 1) = 1; setFinalizable(1, 1) = 2; put(1, 2, 3) = -9;"
                + "setField(3, 0, 0) = -9; collect() = 1; kind(4) = -9; objectCount() = 4;"
                + "pollNotice() = 3001; pollNotice() = 3002; pollNotice() = -2; get(1, 2) = 3;"
                + "setFinalizable(1, 0) = -2; setFinalizable(2, 0) = -2; collect() = 4");
        script.run("promise 17: a reachable object stays finalizable",
                "allocate() = 0; setFinalizable(0, 1) = 1; setRoot(0, 0) = -9; collect() = 0;"
                + "noticeCount() = 0; setFinalizable(0, 1) = -2; setRoot(0, -9) = 0; collect() = 0;"
                + "pollNotice() = 3000; setFinalizable(0, 1) = 1; collect() = 0; pollNotice() = 3000;"
                + "collect() = 1");
        script.run("promise 17: a finalizable object that another one leads to is finalized as well",
                "allocate() = 0; allocate() = 1; setField(0, 0, 1) = -9; setFinalizable(0, 1) = 1;"
                + "setFinalizable(1, 1) = 2; collect() = 0; pollNotice() = 3000; pollNotice() = 3001;"
                + "collect() = 2");
        script.run("promise 17: the finalizable table with the largest identifier and its key",
                Calls.tables(0, 23),
                "setFinalizable(23, 1) = 1; put(23, 0, 1) = -9; put(23, 23, 2) = -9; collect() = 22;"
                + "kind(2) = 1; kind(23) = 1; pollNotice() = 3023; pollNotice() = 2736;"
                + "pollNotice() = -2; entryCount(23) = 1; entryKey(23, 0) = 23; collect() = 2");
        script.run("promise 17: the number of finalizable objects goes down with a finalization",
                "allocate() = 0; allocate() = 1; setFinalizable(0, 1) = 1; collect() = 1;"
                + "allocate() = 1; setFinalizable(1, 1) = 1");
    }

    private static void entries(Script script) {
        script.run("promise 17: entries are removed by tables, then in the order of the entries",
                "allocateTable() = 0; allocateTable() = 1; allocate() = 2; allocate() = 3;"
                + "allocate() = 4; put(1, 3, 2) = -9; put(1, 2, 2) = -9; put(0, 4, 2) = -9;"
                + "put(0, 1, 1) = -9; put(0, 2, 2) = -9; setRoot(0, 1) = -9; setRoot(1, 0) = -9;"
                + "collect() = 3; pollNotice() = 2004; pollNotice() = 2002; pollNotice() = 2035;"
                + "pollNotice() = 2034; pollNotice() = -2; entryCount(0) = 1; entryKey(0, 0) = 1;"
                + "get(0, 1) = 1; entryCount(1) = 0");
        script.run("promise 17: an entry stays if step 3 brings its key back, and marks its value",
                "allocateTable() = 0; allocate() = 1; allocate() = 2; setRoot(0, 0) = -9;"
                + "put(0, 1, 2) = -9; setFinalizable(1, 1) = 1; wouldFree() = 0; collect() = 0;"
                + "lastRounds() = 0; get(0, 1) = 2; pollNotice() = 3001; pollNotice() = -2;"
                + "collect() = 2; pollNotice() = 2001; pollNotice() = -2");
        script.run("promise 17: a table that step 3 brought back loses its entries with a notice",
                "allocateTable() = 0; allocate() = 1; put(0, 1, 0) = -9; put(0, 0, 0) = -9;"
                + "setFinalizable(0, 1) = 1; collect() = 1; entryCount(0) = 1; entryKey(0, 0) = 0;"
                + "pollNotice() = 3000; pollNotice() = 2001; pollNotice() = -2");
        script.run("promise 17: a table that is freed issues no notice",
                "allocateTable() = 0; allocate() = 1; put(0, 1, 1) = -9; collect() = 2;"
                + "noticeCount() = 0");
        script.run("promise 17: weak, finalize, entry: the order of the notices of one collection",
                "allocateTable() = 0; allocate() = 1; allocateWeak(1) = 2; allocate() = 3;"
                + "setRoot(0, 0) = -9; setRoot(1, 2) = -9; put(0, 1, 1) = -9; setFinalizable(3, 1) = 1;"
                + "collect() = 1; pollNotice() = 1002; pollNotice() = 3003; pollNotice() = 2001;"
                + "pollNotice() = -2");
    }

    private static void rounds(Script script) {
        script.run("promise 18: the rounds of step 1 of the last collection",
                "lastRounds() = 0; allocateTable() = 0; allocate() = 1; allocate() = 2;"
                + "setRoot(0, 0) = -9; put(0, 1, 2) = -9; put(0, 0, 1) = -9; lastRounds() = 0;"
                + "collect() = 0; lastRounds() = 2; removeEntry(0, 1) = 2; lastRounds() = 2;"
                + "collect() = 1; lastRounds() = 1; setRoot(0, -9) = 0; collect() = 2;"
                + "lastRounds() = 0; undo() = 5; lastRounds() = 1; undo() = 4; undo() = 3;"
                + "lastRounds() = 2; wouldFree() = 1; markRound(1) = 1; lastRounds() = 2");
        script.run("promise 18: a round whose values are all marked counts for nothing",
                "allocateTable() = 0; setRoot(0, 0) = -9; put(0, 0, 0) = -9; collect() = 0;"
                + "lastRounds() = 0");
        script.run("promise 18: the marking of step 3 does not count",
                "allocateTable() = 0; allocate() = 1; put(0, 0, 1) = -9; setFinalizable(0, 1) = 1;"
                + "collect() = 0; lastRounds() = 0; kind(1) = 0");
    }

    private static void polling(Script script) {
        script.run("promise 19: the oldest notice first, over several collections",
                "pollNotice() = -2; allocate() = 0; setFinalizable(0, 1) = 1; collect() = 0;"
                + "allocate() = 1; setFinalizable(1, 1) = 1; collect() = 1; noticeCount() = 2;"
                + "pollNotice() = 3000; noticeCount() = 1; pollNotice() = 3001; noticeCount() = 0;"
                + "pollNotice() = -2; undoDepth() = 6; undo() = 5; noticeCount() = 1; undo() = 4;"
                + "noticeCount() = 2; pollNotice() = 3000; undoDepth() = 5; pollNotice() = 3001;"
                + "undoDepth() = 6");
        script.run("promise 20: noticeCount counts what was issued and not polled",
                "noticeCount() = 0; allocate() = 0; allocateWeak(0) = 1; setRoot(0, 1) = -9;"
                + "noticeCount() = 0; collect() = 1; noticeCount() = 1; collect() = 0;"
                + "noticeCount() = 1; undoDepth() = 5");
    }

    private static void fullQueue(Script script) {
        StringBuilder calls = new StringBuilder();
        for (int table = 0; table < 4; table++) {
            calls.append("allocateTable() = ").append(table).append(';');
            calls.append("setRoot(").append(table).append(", ").append(table).append(") = -9;");
        }
        for (int key = 4; key < 10; key++) {
            calls.append("allocate() = ").append(key).append(';');
        }
        for (int table = 0; table < 4; table++) {
            for (int key = 4; key < 10; key++) {
                calls.append("put(" + table + ", " + key + ", " + key + ") = -9;");
            }
        }
        String polls = "pollNotice() = 2008; pollNotice() = 2009; pollNotice() = 2036;"
                + "pollNotice() = 2037; pollNotice() = 2038; pollNotice() = 2039;"
                + "pollNotice() = 2040; pollNotice() = 2041; pollNotice() = 2068;"
                + "pollNotice() = 2069; pollNotice() = 2070; pollNotice() = 2071;"
                + "pollNotice() = 2072; pollNotice() = 2073; pollNotice() = 2100;"
                + "pollNotice() = 2101; pollNotice() = 2102; pollNotice() = 2103;"
                + "pollNotice() = 2104; pollNotice() = 2105; pollNotice() = -2; noticeCount() = 0";
        script.run("promise 19: 24 notices in a queue of 20: the oldest four are dropped",
                calls.toString(), "collect() = 6; noticeCount() = 20;", polls);
        script.run("promise 20: a later notice drops the oldest one of a full queue",
                calls.toString(), "collect() = 6; noticeCount() = 20; allocate() = 4;"
                + "setFinalizable(4, 1) = 1; collect() = 0; noticeCount() = 20; pollNotice() = 2009;"
                + "noticeCount() = 19");
    }
}
