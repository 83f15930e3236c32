/** Promises 21 to 27: the queries. */
public final class QueriesTest {
    private static final String MIN = "-2147483648";
    private static final String MAX = "2147483647";

    public static void main(String[] args) {
        Script script = new Script();
        counting(script);
        marking(script);
        predicting(script);
        retaining(script);
        waiting(script);
        references(script);
        script.end();
    }

    private static void counting(Script script) {
        script.run("promise 21: objectCount",
                "objectCount() = 0; allocate() = 0; objectCount() = 1; allocateTable() = 1;"
                + "objectCount() = 2; allocateWeak(0) = 2; objectCount() = 3; setRoot(0, 2) = -9;"
                + "collect() = 2; objectCount() = 1; undo() = 4; objectCount() = 3; undoDepth() = 4");
        script.run("promise 22: reachableCount",
                "reachableCount() = 0; allocate() = 0; allocate() = 1; allocateTable() = 2;"
                + "allocateWeak(1) = 3; reachableCount() = 0; setRoot(0, 0) = -9;"
                + "reachableCount() = 1; setRoot(1, 0) = -9; reachableCount() = 1;"
                + "setField(0, 0, 2) = -9; reachableCount() = 2; setField(0, 1, 3) = -9;"
                + "reachableCount() = 3; put(2, 1, 1) = -9; reachableCount() = 3;"
                + "put(2, 0, 1) = -9; reachableCount() = 4; undoDepth() = 6");
        script.run("promise 22: a finalizable object is not reachable for that",
                "allocate() = 0; setFinalizable(0, 1) = 1; reachableCount() = 0; wouldFree() = 0");
    }

    private static void marking(Script script) {
        script.run("promise 23: a table that a round marks is considered in the next round",
                "allocateTable() = 0; allocateTable() = 1; allocate() = 2; allocate() = 3;"
                + "put(1, 0, 2) = -9; put(0, 0, 1) = -9; setField(2, 0, 3) = -9; setRoot(0, 0) = -9;"
                + "markRound(0) = 0; markRound(1) = 1; markRound(2) = 2; markRound(3) = 2;"
                + "reachableCount() = 4; undoDepth() = 6; undo() = 5; reachableCount() = 0");
        script.run("promise 23: a key that a round marks serves in the next round, in any order",
                "allocateTable() = 0; allocate() = 1; allocate() = 2; allocate() = 3;"
                + "setRoot(0, 0) = -9; put(0, 2, 3) = -9; put(0, 1, 2) = -9; put(0, 0, 1) = -9;"
                + "markRound(1) = 1; markRound(2) = 2; markRound(3) = 3; removeEntry(0, 2) = 3;"
                + "put(0, 2, 3) = -9; markRound(3) = 3; removeEntry(0, 0) = 1; markRound(1) = -9;"
                + "markRound(2) = -9; markRound(3) = -9; markRound(0) = 0");
        script.run("promise 23: the first round that reaches an object gives its number",
                "allocateTable() = 0; allocate() = 1; allocate() = 2; setRoot(0, 0) = -9;"
                + "put(0, 0, 1) = -9; put(0, 1, 2) = -9; setField(1, 0, 2) = -9; markRound(2) = 1;"
                + "setRoot(3, 2) = -9; markRound(2) = 0; setField(1, 0, -9) = 2;"
                + "setRoot(3, -9) = 2; markRound(2) = 2");
        script.run("promise 23: fields are followed to the end within round 0",
                chainOfFields(), "setRoot(0, 23) = -9; markRound(0) = 0; markRound(23) = 0;"
                + "reachableCount() = 24; retainedSize(0) = 1; retainedSize(12) = 13;"
                + "retainedSize(23) = 24; setField(12, 1, -9) = 11; markRound(11) = -9;"
                + "wouldFree() = 12; collect() = 12");
        script.run("promise 23: as many rounds as there are links in a chain of entries",
                Calls.tables(0, 23), Calls.entryChain(0, 23),
                "setRoot(0, 0) = -9; markRound(23) = 23; markRound(12) = 12;"
                + "reachableCount() = 24; retainedSize(0) = 24; retainedSize(12) = 12;"
                + "collect() = 0; lastRounds() = 23");
        script.run("promise 23: wrong arguments",
                "allocate() = 0; markRound(0) = -9; markRound(1) = -1; markRound(-1) = -1;"
                + "markRound(-9) = -1; markRound(24) = -1; markRound(" + MAX + ") = -1;"
                + "markRound(" + MIN + ") = -1; undoDepth() = 1");
    }

    private static String chainOfFields() {
        StringBuilder calls = new StringBuilder();
        for (int object = 0; object < 24; object++) {
            calls.append("allocate() = ").append(object).append(';');
        }
        for (int object = 1; object < 24; object++) {
            calls.append("setField(" + object + ", 1, " + (object - 1) + ") = -9;");
        }
        return calls.toString();
    }

    private static void predicting(Script script) {
        script.run("promise 24: wouldFree leaves out what a finalizable object leads to",
                "wouldFree() = 0; allocate() = 0; allocate() = 1; allocate() = 2; wouldFree() = 3;"
                + "setField(0, 0, 1) = -9; setFinalizable(0, 1) = 1; wouldFree() = 1;"
                + "noticeCount() = 0; lastRounds() = 0; undoDepth() = 5; collect() = 1;"
                + "wouldFree() = 2; collect() = 2; wouldFree() = 0");
        script.run("promise 24: each prediction marks anew",
                "allocate() = 0; setFinalizable(0, 1) = 1; setRoot(0, 0) = -9; reachableCount() = 1;"
                + "wouldFree() = 0; setRoot(0, -9) = 0; wouldFree() = 0; setFinalizable(0, 0) = 0;"
                + "wouldFree() = 1; undo() = 4; undo() = 3; wouldFree() = 0; reachableCount() = 1");
        script.run("promise 24: roots and finalizable objects serve one another in one marking",
                "allocateTable() = 0; allocate() = 1; allocate() = 2; allocateWeak(2) = 3;"
                + "put(0, 1, 3) = -9; setRoot(0, 0) = -9; setFinalizable(1, 1) = 1; wouldFree() = 1;"
                + "target(3) = 2; entryCount(0) = 1; collect() = 1; kind(2) = -9; target(3) = -9");
    }

    private static void retaining(Script script) {
        script.run("promise 25: what only one object leads to",
                "allocate() = 0; allocate() = 1; allocate() = 2; allocate() = 3; setRoot(0, 0) = -9;"
                + "setField(0, 0, 1) = -9; setField(0, 1, 2) = -9; setField(1, 0, 3) = -9;"
                + "retainedSize(1) = 2; setField(2, 0, 3) = -9; retainedSize(1) = 1;"
                + "retainedSize(3) = 1; retainedSize(0) = 4; setRoot(1, 2) = -9; retainedSize(0) = 2;"
                + "undoDepth() = 6");
        script.run("promise 25: a key retains the values of its entries, a table retains them too",
                "allocateTable() = 0; allocate() = 1; allocate() = 2; setRoot(0, 0) = -9;"
                + "setRoot(1, 1) = -9; put(0, 1, 2) = -9; retainedSize(1) = 2; retainedSize(0) = 2;"
                + "retainedSize(2) = 1; put(0, 0, 2) = -9; retainedSize(1) = 1; retainedSize(0) = 2");
        script.run("promise 25: an object with several roots is counted with what it leads to",
                "allocate() = 0; allocate() = 1; setField(0, 2, 1) = -9; setRoot(0, 0) = -9;"
                + "setRoot(1, 0) = -9; retainedSize(0) = 2");
        script.run("promise 25: 0 if the object is not reachable; wrong arguments",
                "allocate() = 0; allocate() = 1; setField(0, 0, 1) = -9; retainedSize(0) = 0;"
                + "retainedSize(1) = 0; retainedSize(2) = -1; retainedSize(-1) = -1;"
                + "retainedSize(-9) = -1; retainedSize(24) = -1; retainedSize(" + MAX + ") = -1;"
                + "retainedSize(" + MIN + ") = -1; undoDepth() = 3");
        script.run("promise 25: a weak reference retains nothing but itself",
                "allocate() = 0; allocateWeak(0) = 1; setRoot(0, 1) = -9; retainedSize(1) = 1;"
                + "retainedSize(0) = 0");
    }

    private static void waiting(Script script) {
        script.run("promise 26: entries of reachable tables with a key that is not reachable",
                "allocateTable() = 0; allocateTable() = 1; allocateTable() = 2; allocate() = 3;"
                + "put(0, 3, 0) = -9; put(1, 3, 3) = -9; put(2, 3, 0) = -9; waitingEntries(3) = 0;"
                + "setRoot(0, 0) = -9; waitingEntries(3) = 1; setRoot(1, 1) = -9;"
                + "waitingEntries(3) = 2; waitingEntries(2) = 0; setRoot(2, 3) = -9;"
                + "waitingEntries(3) = 0; setRoot(2, -9) = 3; waitingEntries(3) = 2; undoDepth() = 6");
        script.run("promise 26: a value does not wait, nor does a key that an entry marks",
                "allocateTable() = 0; allocate() = 1; allocate() = 2; setRoot(0, 0) = -9;"
                + "put(0, 1, 2) = -9; waitingEntries(2) = 0; waitingEntries(1) = 1;"
                + "put(0, 0, 1) = -9; waitingEntries(1) = 0; waitingEntries(0) = 0");
        script.run("promise 26: wrong arguments",
                "allocate() = 0; waitingEntries(0) = 0; waitingEntries(1) = -1;"
                + "waitingEntries(-1) = -1; waitingEntries(-9) = -1; waitingEntries(24) = -1;"
                + "waitingEntries(" + MAX + ") = -1; waitingEntries(" + MIN + ") = -1;"
                + "undoDepth() = 1");
    }

    private static void references(Script script) {
        script.run("promise 27: every way of referring counts, each singly",
                "allocate() = 0; allocateTable() = 1; referenceCount(0) = 0; setRoot(0, 0) = -9;"
                + "referenceCount(0) = 1; setRoot(5, 0) = -9; referenceCount(0) = 2;"
                + "setField(0, 0, 0) = -9; setField(0, 2, 0) = -9; referenceCount(0) = 4;"
                + "put(1, 0, 0) = -9; referenceCount(0) = 6; put(1, 1, 0) = -9;"
                + "referenceCount(0) = 7; referenceCount(1) = 1; allocateWeak(0) = 2;"
                + "referenceCount(0) = 8; put(1, 0, 2) = 0; referenceCount(0) = 7;"
                + "referenceCount(2) = 1; removeEntry(1, 0) = 2; referenceCount(0) = 6;"
                + "referenceCount(2) = 0; undoDepth() = 6");
        script.run("promise 27: what was freed or emptied refers to nothing",
                "allocate() = 0; allocate() = 1; allocateTable() = 2; setField(1, 0, 0) = -9;"
                + "put(2, 0, 0) = -9; allocateWeak(0) = 3; setRoot(0, 0) = -9;"
                + "referenceCount(0) = 5; collect() = 3; referenceCount(0) = 1; allocate() = 1;"
                + "allocate() = 2; allocate() = 3; referenceCount(0) = 1");
        script.run("promise 27: wrong arguments",
                "allocate() = 0; referenceCount(1) = -1; referenceCount(-1) = -1;"
                + "referenceCount(-9) = -1; referenceCount(24) = -1; referenceCount(" + MAX
                + ") = -1; referenceCount(" + MIN + ") = -1; undoDepth() = 1");
    }
}
