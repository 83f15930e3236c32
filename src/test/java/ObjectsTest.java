/** Promises 1 to 11: a new heap, the three kinds of objects, fields, roots, finalizable objects. */
public final class ObjectsTest {
    private static final String MIN = "-2147483648";
    private static final String MAX = "2147483647";

    public static void main(String[] args) {
        Script script = new Script();
        newHeap(script);
        allocating(script);
        allocatingWeakReferences(script);
        kinds(script);
        fields(script);
        roots(script);
        targets(script);
        finalizableObjects(script);
        script.end();
    }

    private static void newHeap(Script script) {
        script.run("promise 1: a new heap is empty",
                "objectCount() = 0; reachableCount() = 0; noticeCount() = 0; lastRounds() = 0;"
                + "undoDepth() = 0; undo() = -2; wouldFree() = 0; pollNotice() = -2",
                "root(0) = -9; root(1) = -9; root(2) = -9; root(3) = -9; root(4) = -9; root(5) = -9",
                "kind(0) = -9; kind(23) = -9; restore(0) = -2; restore(1) = -2");
    }

    private static void allocating(Script script) {
        script.run("promise 2: the fields of a new plain object are empty",
                "allocate() = 0; kind(0) = 0; field(0, 0) = -9; field(0, 1) = -9; field(0, 2) = -9;"
                + "setFinalizable(0, 0) = -2; objectCount() = 1; undoDepth() = 1");
        script.run("promise 2: the smallest free identifier is taken, and it comes back clean",
                Calls.plainObjects(0, 3),
                "setField(1, 0, 2) = -9; setField(1, 2, 1) = -9; setRoot(0, 0) = -9;"
                + "setRoot(1, 3) = -9; collect() = 2; allocate() = 1; allocateTable() = 2;"
                + "allocate() = 4; field(1, 0) = -9; field(1, 2) = -9; referenceCount(1) = 0;"
                + "referenceCount(2) = 0");
        script.run("promise 2: at most 24 objects",
                Calls.plainObjects(0, 23),
                "objectCount() = 24; undoDepth() = 6; undo() = 5; allocate() = 23; allocate() = -3;"
                + "allocateTable() = -3; allocateWeak(0) = -3; objectCount() = 24; undoDepth() = 6;"
                + "undo() = 5; objectCount() = 23");
        script.run("promise 3: a new table has no entries",
                "allocateTable() = 0; kind(0) = 1; entryCount(0) = 0; entryKey(0, 0) = -9;"
                + "setFinalizable(0, 0) = -2; undoDepth() = 1");
        script.run("promise 3: a table on a used identifier has no entries either",
                "allocateTable() = 0; put(0, 0, 0) = -9; collect() = 1; allocateTable() = 0;"
                + "entryCount(0) = 0; get(0, 0) = -9; referenceCount(0) = 0");
        script.run("promise 3: the 24th object may be a table, the 25th not",
                Calls.plainObjects(0, 22), "allocateTable() = 23; allocateTable() = -3; kind(23) = 1");
    }

    private static void allocatingWeakReferences(Script script) {
        script.run("promise 4: a weak reference to each kind",
                "allocate() = 0; allocateTable() = 1; allocateWeak(0) = 2; allocateWeak(1) = 3;"
                + "allocateWeak(3) = 4; target(2) = 0; target(3) = 1; target(4) = 3; kind(4) = 2;"
                + "setFinalizable(4, 0) = -2; undoDepth() = 5");
        script.run("promise 4: the target must be allocated; an invalid target comes first",
                "allocateWeak(0) = -1; allocateWeak(-9) = -1; allocateWeak(-1) = -1;"
                + "allocateWeak(24) = -1; allocateWeak(" + MIN + ") = -1; allocateWeak(" + MAX
                + ") = -1; undoDepth() = 0; objectCount() = 0",
                Calls.plainObjects(0, 23), "allocateWeak(24) = -1; allocateWeak(-9) = -1; allocateWeak(5) = -3");
        script.run("promise 4: a weak reference does not refer to its own identifier to come",
                "allocate() = 0; allocateWeak(1) = -1; objectCount() = 1");
    }

    private static void kinds(Script script) {
        script.run("promise 5: kind",
                "allocate() = 0; allocateTable() = 1; allocateWeak(1) = 2; kind(0) = 0; kind(1) = 1;"
                + "kind(2) = 2; kind(3) = -9; kind(23) = -9; kind(24) = -9; kind(-1) = -9;"
                + "kind(-9) = -9; kind(" + MIN + ") = -9; kind(" + MAX + ") = -9");
    }

    private static void fields(Script script) {
        script.run("promise 6: setField answers the previous content",
                "allocate() = 0; allocate() = 1; setField(0, 0, 1) = -9; setField(0, 0, 0) = 1;"
                + "setField(0, 0, -9) = 0; setField(0, 0, -9) = -2; setField(0, 2, 1) = -9;"
                + "setField(0, 2, 1) = -2; field(0, 0) = -9; field(0, 1) = -9; field(0, 2) = 1;"
                + "field(1, 0) = -9; field(1, 2) = -9");
        script.run("promise 6: wrong arguments change nothing",
                "allocate() = 0; allocateTable() = 1; allocateWeak(0) = 2;"
                + "setField(1, 0, 0) = -1; setField(2, 0, 0) = -1; setField(3, 0, 0) = -1;"
                + "setField(-1, 0, 0) = -1; setField(24, 0, 0) = -1; setField(-9, 0, -9) = -1;"
                + "setField(0, -1, 0) = -1; setField(0, 3, 0) = -1; setField(0, 3, -9) = -1;"
                + "setField(0, 0, 3) = -1; setField(0, 0, -1) = -1; setField(0, 0, 24) = -1;"
                + "setField(0, 0, -8) = -1; setField(0, 0, -10) = -1",
                "setField(" + MAX + ", 0, 0) = -1; setField(" + MIN + ", 0, 0) = -1;"
                + "setField(0, " + MAX + ", 0) = -1; setField(0, " + MIN + ", 0) = -1;"
                + "setField(0, 0, " + MAX + ") = -1; setField(0, 0, " + MIN + ") = -1;"
                + "field(0, 0) = -9; undoDepth() = 3; setField(0, 0, -9) = -2; undoDepth() = 3");
        script.run("promise 7: field",
                "allocate() = 0; allocateTable() = 1; allocateWeak(0) = 2; setField(0, 1, 2) = -9;"
                + "field(0, 0) = -9; field(0, 1) = 2; field(0, 2) = -9; field(0, 3) = -1;"
                + "field(0, -1) = -1; field(1, 0) = -1; field(2, 0) = -1; field(3, 0) = -1;"
                + "field(-1, 0) = -1; field(24, 0) = -1; field(" + MAX + ", 0) = -1;"
                + "field(0, " + MIN + ") = -1; undoDepth() = 4");
    }

    private static void roots(Script script) {
        script.run("promise 8: setRoot answers the previous content",
                "allocate() = 0; allocateTable() = 1; allocateWeak(0) = 2; setRoot(0, 0) = -9;"
                + "setRoot(0, 1) = 0; setRoot(0, 1) = -2; setRoot(5, 2) = -9; setRoot(0, -9) = 1;"
                + "setRoot(0, -9) = -2; root(0) = -9; root(5) = 2; undoDepth() = 6; undo() = 5;"
                + "root(0) = 1");
        script.run("promise 8: wrong arguments change nothing",
                "allocate() = 0; setRoot(6, 0) = -1; setRoot(-1, 0) = -1; setRoot(6, -9) = -1;"
                + "setRoot(0, 1) = -1; setRoot(0, -1) = -1; setRoot(0, 24) = -1; setRoot(0, -8) = -1;"
                + "setRoot(" + MAX + ", 0) = -1; setRoot(" + MIN + ", 0) = -1; setRoot(0, " + MAX
                + ") = -1; setRoot(0, " + MIN + ") = -1; root(0) = -9; undoDepth() = 1");
        script.run("promise 9: root",
                "allocate() = 0; setRoot(3, 0) = -9; root(3) = 0; root(2) = -9; root(4) = -9;"
                + "root(6) = -1; root(-1) = -1; root(-9) = -1; root(" + MAX + ") = -1; root(" + MIN
                + ") = -1; undoDepth() = 2");
    }

    private static void targets(Script script) {
        script.run("promise 10: target",
                "allocate() = 0; allocateTable() = 1; allocateWeak(1) = 2; target(2) = 1;"
                + "target(0) = -1; target(1) = -1; target(3) = -1; target(-1) = -1; target(24) = -1;"
                + "target(" + MAX + ") = -1; target(" + MIN + ") = -1; setRoot(0, 2) = -9;"
                + "collect() = 2; target(2) = -9");
    }

    private static void finalizableObjects(Script script) {
        script.run("promise 11: setFinalizable counts the finalizable objects of all kinds",
                "allocate() = 0; allocateTable() = 1; allocateWeak(0) = 2; setFinalizable(0, 1) = 1;"
                + "setFinalizable(1, 1) = 2; setFinalizable(2, 1) = 3; setFinalizable(1, 0) = 2;"
                + "setFinalizable(1, 0) = -2; setFinalizable(0, 1) = -2; setFinalizable(2, 0) = 1;"
                + "setFinalizable(0, 0) = 0; undoDepth() = 6; undo() = 5; setFinalizable(0, 1) = -2");
        script.run("promise 11: wrong arguments change nothing",
                "allocate() = 0; setFinalizable(1, 1) = -1; setFinalizable(-1, 1) = -1;"
                + "setFinalizable(-9, 0) = -1; setFinalizable(24, 1) = -1; setFinalizable(0, 2) = -1;"
                + "setFinalizable(0, -1) = -1; setFinalizable(0, " + MAX + ") = -1;"
                + "setFinalizable(0, " + MIN + ") = -1; setFinalizable(" + MAX + ", 1) = -1;"
                + "undoDepth() = 1; setFinalizable(0, 1) = 1");
    }
}
