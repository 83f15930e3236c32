/** The five examples of the document's description. */
public final class ExamplesTest {
    public static void main(String[] args) {
        Script script = new Script();
        script.run("example 1: an entry whose key is reachable marks its value in round 1",
                "allocate() = 0; allocateTable() = 1; allocate() = 2; setRoot(0, 0) = -9;"
                + "setField(0, 0, 1) = -9; put(1, 0, 2) = -9; markRound(2) = 1; collect() = 0;"
                + "lastRounds() = 1");
        script.run("example 2: entries whose keys are not reachable are removed, with notices",
                "allocateTable() = 0; allocate() = 1; allocate() = 2; setRoot(0, 0) = -9;"
                + "put(0, 1, 2) = -9; put(0, 2, 1) = -9; reachableCount() = 1; collect() = 2;"
                + "pollNotice() = 2001; pollNotice() = 2002; entryCount(0) = 0");
        script.run("example 3: a finalizable object survives one collection",
                "allocate() = 0; setFinalizable(0, 1) = 1; collect() = 0; pollNotice() = 3000;"
                + "kind(0) = 0; collect() = 1; kind(0) = -9");
        script.run("example 4: a weak reference becomes empty",
                "allocate() = 0; allocateWeak(0) = 1; setRoot(0, 1) = -9; collect() = 1;"
                + "target(1) = -9; pollNotice() = 1001; pollNotice() = -2");
        script.run("example 5: an object that refers to itself; errors",
                "allocate() = 0; setField(0, 0, 0) = -9; setField(0, 0, 0) = -2;"
                + "setField(0, 3, 0) = -1; referenceCount(0) = 1; markRound(0) = -9");
        script.end();
    }
}
