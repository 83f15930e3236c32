import java.io.IOException;

/** The sentences of promises 1 to 11, each with a test of its own. */
public final class ObjectSentencesTest {
    private static final String THREE_KINDS =
            "allocate() = 0; allocateTable() = 1; allocateWeak(0) = 2;";
    /** A heap of the three kinds, rooted, in which 3 was freed. */
    private static final String WITH_FREED = THREE_KINDS + "allocate() = 3; setRoot(3, 0) = -9;"
            + "setRoot(4, 1) = -9; setRoot(5, 2) = -9; collect() = 1;";

    public static void main(String[] args) throws IOException {
        Sentences sentences = new Sentences();
        newHeap(sentences);
        allocate(sentences);
        allocateTable(sentences);
        allocateWeak(sentences);
        kind(sentences);
        setField(sentences);
        field(sentences);
        setRoot(sentences);
        root(sentences);
        target(sentences);
        setFinalizable(sentences);
        sentences.end();
    }

    private static void newHeap(Sentences sentences) {
        sentences.section("Promise 1: A new object");
        sentences.holds("Creates an empty heap.",
                "objectCount() = 0; reachableCount() = 0; wouldFree() = 0; noticeCount() = 0;"
                + "lastRounds() = 0; undoDepth() = 0; undo() = -2; pollNotice() = -2;"
                + "restore(0) = -2; restore(1) = -2;", Calls.counted("kind(#) = -9;", 0, 23),
                Calls.counted("root(#) = -9;", 0, 5), "allocate() = 0");
        sentences.holdsApart("Creates an empty heap.",
                "allocate() = 0; setRoot(0, 0) = -9; allocateTable() = 1; setFinalizable(1, 1) = 1;"
                + "save(0) = 2; collect() = 0; noticeCount() = 1; objectCount() = 2; undoDepth() = 5;"
                + "restore(1) = -2",
                "objectCount() = 0; root(0) = -9; allocateTable() = 0; put(0, 0, 0) = -9;"
                + "restore(0) = -2; collect() = 1; noticeCount() = 0; objectCount() = 0;"
                + "undoDepth() = 3; save(1) = 0");
    }

    private static void allocate(Sentences sentences) {
        sentences.section("Promise 2: allocate");
        sentences.holds("Allocates a plain object with empty fields.",
                "allocate() = 0; kind(0) = 0; field(0, 0) = -9; field(0, 1) = -9; field(0, 2) = -9;"
                + "setField(0, 0, 0) = -9; setField(0, 1, 0) = -9; setField(0, 2, 0) = -9;"
                + "collect() = 1; allocate() = 0; field(0, 0) = -9; field(0, 1) = -9;"
                + "field(0, 2) = -9; referenceCount(0) = 0");
        sentences.holds("It is not finalizable.",
                "allocate() = 0; setFinalizable(0, 0) = -2; setFinalizable(0, 1) = 1; undo() = 1;"
                + "setFinalizable(0, 1) = 1; undo() = 1; undo() = 0; allocate() = 0;"
                + "setFinalizable(0, 0) = -2; setFinalizable(0, 1) = 1; collect() = 0; collect() = 1;"
                + "allocate() = 0; setFinalizable(0, 0) = -2; collect() = 1");
        sentences.holds("Returns the identifier",
                "allocate() = 0; allocateTable() = 1; allocate() = 2; setRoot(0, 1) = -9;"
                + "collect() = 2; allocate() = 0; allocate() = 2; allocate() = 3; kind(0) = 0;"
                + "kind(1) = 1; kind(2) = 0; kind(3) = 0; kind(4) = -9");
        sentences.holds("CAPACITY_EXCEEDED if there are 24 objects.",
                Calls.tables(0, 22), "allocate() = 23; allocate() = -3; allocate() = -3;"
                + "objectCount() = 24; undo() = 5; objectCount() = 23; allocate() = 23;"
                + "allocate() = -3; setRoot(0, 5) = -9; collect() = 23; allocate() = 0");
    }

    private static void allocateTable(Sentences sentences) {
        sentences.section("Promise 3: allocateTable");
        sentences.holds("Allocates a table without entries.",
                "allocateTable() = 0; kind(0) = 1; entryCount(0) = 0; entryKey(0, 0) = -9;"
                + "get(0, 0) = -9;", Calls.plainObjects(1, 6), Calls.counted("put(0, #, #) = -9;", 1, 6),
                "collect() = 7; allocateTable() = 0; entryCount(0) = 0;",
                Calls.plainObjects(1, 6), Calls.counted("get(0, #) = -9;", 0, 6),
                Calls.counted("entryKey(0, #) = -9;", 0, 6));
        sentences.holds("It is not finalizable.",
                "allocateTable() = 0; setFinalizable(0, 0) = -2; setFinalizable(0, 1) = 1;"
                + "collect() = 0; collect() = 1; allocateTable() = 0; setFinalizable(0, 0) = -2;"
                + "collect() = 1");
        sentences.holds("Returns the identifier",
                "allocateTable() = 0; allocate() = 1; allocateTable() = 2; setRoot(0, 2) = -9;"
                + "collect() = 2; allocateTable() = 0; allocateTable() = 1; allocateTable() = 3;"
                + "kind(0) = 1; kind(1) = 1; kind(2) = 1; kind(3) = 1; kind(4) = -9");
        sentences.holds("CAPACITY_EXCEEDED if there are 24 objects.",
                Calls.plainObjects(0, 22), "allocateTable() = 23; allocateTable() = -3;"
                + "allocateTable() = -3; objectCount() = 24; undo() = 5; allocateTable() = 23;"
                + "entryCount(23) = 0");
    }

    private static void allocateWeak(Sentences sentences) {
        sentences.section("Promise 4: allocateWeak");
        sentences.holds("Allocates a weak reference.",
                "allocate() = 0; allocateWeak(0) = 1; kind(1) = 2; target(1) = 0;"
                + "referenceCount(0) = 1; allocateWeak(0) = 2; referenceCount(0) = 2;"
                + "collect() = 3; allocate() = 0; allocate() = 1; target(1) = -1");
        sentences.holds("the target",
                THREE_KINDS, "allocateWeak(0) = 3; allocateWeak(1) = 4; allocateWeak(2) = 5;"
                + "target(3) = 0; target(4) = 1; target(5) = 2");
        sentences.holds("It is not finalizable.",
                "allocate() = 0; setRoot(0, 0) = -9; setFinalizable(0, 1) = 1; allocateWeak(0) = 1;"
                + "setFinalizable(1, 0) = -2; setFinalizable(1, 1) = 2; collect() = 0;"
                + "collect() = 1; allocateWeak(0) = 1; setFinalizable(1, 0) = -2; collect() = 1");
        sentences.holds("Returns the identifier",
                "allocate() = 0; allocate() = 1; allocateWeak(1) = 2; setRoot(0, 1) = -9;"
                + "setRoot(1, 2) = -9; collect() = 1; allocateWeak(2) = 0; allocateWeak(0) = 3;"
                + "kind(0) = 2; kind(3) = 2");
        sentences.holds("INVALID_ARGUMENT if target is not allocated",
                "allocateWeak(0) = -1;", WITH_FREED, Calls.neverAllocated("allocateWeak(#) = -1;"),
                Calls.each("allocateWeak(#) = -1;", 3, 4, 23), "objectCount() = 3; allocate() = 3;"
                + "allocateWeak(3) = 4");
        sentences.holds("CAPACITY_EXCEEDED if there are 24 objects.",
                Calls.plainObjects(0, 22), "allocateWeak(22) = 23; allocateWeak(23) = -3;"
                + "allocateWeak(0) = -3; allocateWeak(24) = -1; objectCount() = 24; undo() = 5;"
                + "allocateWeak(0) = 23; target(23) = 0");
    }

    private static void kind(Sentences sentences) {
        sentences.section("Promise 5: kind");
        sentences.holds("Returns the kind of an object.",
                THREE_KINDS, "kind(0) = 0; kind(1) = 1; kind(2) = 2; collect() = 3;"
                + "allocateTable() = 0; allocateWeak(0) = 1; allocate() = 2; kind(0) = 1;"
                + "kind(1) = 2; kind(2) = 0; undoDepth() = 6");
        sentences.holds("an identifier",
                Calls.plainObjects(0, 22), "allocateTable() = 23; kind(0) = 0; kind(22) = 0;"
                + "kind(23) = 1");
        sentences.holds("Returns 0 plain object, 1 table, 2 weak reference",
                "allocateTable() = 0; allocateWeak(0) = 1; allocateWeak(1) = 2; allocate() = 3;"
                + "kind(0) = 1; kind(1) = 2; kind(2) = 2; kind(3) = 0; setRoot(0, 1) = -9;"
                + "collect() = 3; target(1) = -9; kind(1) = 2");
        sentences.holds("NONE if object is not allocated.",
                "kind(0) = -9;", WITH_FREED, Calls.neverAllocated("kind(#) = -9;"),
                Calls.each("kind(#) = -9;", 3, 4, 23));
    }

    private static void setField(Sentences sentences) {
        sentences.section("Promise 6: setField");
        sentences.holds("Sets a field of a plain object.",
                Calls.plainObjects(0, 23), "setField(0, 2, 23) = -9; setField(1, 0, 22) = -9;"
                + "setField(23, 2, 0) = -9; field(0, 2) = 23; field(1, 0) = 22; field(23, 2) = 0;"
                + "field(0, 0) = -9; field(0, 1) = -9; field(1, 1) = -9; field(22, 2) = -9;"
                + "field(23, 1) = -9; undo() = 5; field(23, 2) = -9; field(1, 0) = 22");
        sentences.holds("a plain object",
                THREE_KINDS, "setField(0, 0, 1) = -9; setField(1, 0, 0) = -1;"
                + "setField(2, 0, 0) = -1; setField(1, 0, -9) = -1; setField(2, 0, -9) = -1");
        sentences.holds("index of the field, 0 to 2",
                THREE_KINDS, "setField(0, 0, 1) = -9; setField(0, 2, 2) = -9; setField(0, 1, 0) = -9;"
                + "setField(0, 3, 1) = -1; setField(0, -1, 1) = -1; field(0, 0) = 1;"
                + "field(0, 1) = 0; field(0, 2) = 2");
        sentences.holds("the object to refer to, or NONE to make the field empty",
                THREE_KINDS, "setField(0, 1, 2) = -9; setField(0, 1, 1) = 2; setField(0, 1, 0) = 1;"
                + "setField(0, 1, -9) = 0; field(0, 1) = -9; referenceCount(0) = 1;"
                + "setField(0, 1, 1) = -9");
        sentences.holds("Returns the previous content of the field (NONE if it was empty)",
                Calls.plainObjects(0, 2), "setField(1, 0, 2) = -9; setField(1, 0, 0) = 2;"
                + "setField(1, 0, 1) = 0; setField(1, 1, 0) = -9; setField(1, 0, -9) = 1;"
                + "setField(1, 0, 2) = -9");
        sentences.holds("INVALID_ARGUMENT if object is not allocated or no plain object",
                "setField(0, 0, -9) = -1;", WITH_FREED, Calls.neverAllocated("setField(#, 0, 1) = -1;"),
                Calls.each("setField(#, 0, 1) = -1; setField(#, 0, -9) = -1;", 1, 2, 3, 4, 23));
        sentences.holds("if field is out of range",
                THREE_KINDS, Calls.outside(2, "setField(0, #, 1) = -1; setField(0, #, -9) = -1;"));
        sentences.holds("if target is neither NONE nor allocated",
                WITH_FREED, "setField(0, 0, 1) = -9;",
                Calls.each("setField(0, 0, #) = -1; setField(0, 1, #) = -1;", 3, 4, 23),
                Calls.neverAllocated("setField(0, 1, #) = -1;").replace(", -9) = -1", ", -9) = -2"),
                "field(0, 0) = 1; setField(0, 0, -9) = 1");
        sentences.holds("ILLEGAL_STATE if the field already has this content.",
                Calls.plainObjects(0, 1), "setField(0, 0, -9) = -2; setField(0, 0, 1) = -9;"
                + "setField(0, 0, 1) = -2; setField(0, 1, 1) = -9; setField(0, 0, 0) = 1;"
                + "setField(0, 0, 0) = -2; setField(0, 0, -9) = 0; setField(0, 0, -9) = -2;"
                + "undoDepth() = 6; undo() = 5; setField(0, 0, 0) = -2");
    }

    private static void field(Sentences sentences) {
        sentences.section("Promise 7: field");
        sentences.holds("Returns a field of a plain object.",
                Calls.plainObjects(0, 23), "setField(0, 0, 1) = -9; setField(0, 2, 3) = -9;"
                + "setField(23, 0, 4) = -9; setField(23, 2, 5) = -9; field(0, 0) = 1;"
                + "field(0, 1) = -9; field(0, 2) = 3; field(23, 0) = 4; field(23, 1) = -9;"
                + "field(23, 2) = 5");
        sentences.holds("a plain object",
                THREE_KINDS, "field(0, 0) = -9; field(1, 0) = -1; field(2, 0) = -1");
        sentences.holds("index of the field, 0 to 2",
                "allocate() = 0; field(0, -1) = -1; field(0, 0) = -9; field(0, 1) = -9;"
                + "field(0, 2) = -9; field(0, 3) = -1");
        sentences.holds("Returns the object that the field refers to",
                THREE_KINDS, Calls.counted("setField(0, #, #) = -9;", 0, 2),
                Calls.counted("field(0, #) = #;", 0, 2), "undoDepth() = 6");
        sentences.holds("INVALID_ARGUMENT if object is not allocated or no plain object",
                "field(0, 0) = -1;", WITH_FREED, Calls.neverAllocated("field(#, 0) = -1;"),
                Calls.each("field(#, 0) = -1; field(#, 2) = -1;", 1, 2, 3, 4, 23));
        sentences.holds("if field is out of range",
                Calls.plainObjects(0, 1), "setField(0, 2, 0) = -9; setField(1, 0, 1) = -9;",
                Calls.outside(2, "field(0, #) = -1; field(1, #) = -1;"));
        sentences.holds("NONE if the field is empty.",
                "allocate() = 0; field(0, 2) = -9; setField(0, 2, 0) = -9; field(0, 2) = 0;"
                + "setField(0, 2, -9) = 0; field(0, 2) = -9");
    }

    private static void setRoot(Sentences sentences) {
        sentences.section("Promise 8: setRoot");
        sentences.holds("Sets a root.",
                Calls.plainObjects(0, 23), "setRoot(0, 23) = -9; setRoot(5, 0) = -9; root(0) = 23;"
                + "root(5) = 0;", Calls.counted("root(#) = -9;", 1, 4), "reachableCount() = 2;"
                + "undo() = 5; root(5) = -9; root(0) = 23");
        sentences.holds("index of the root, 0 to 5",
                "allocate() = 0; setRoot(-1, 0) = -1;", Calls.counted("setRoot(#, 0) = -9;", 0, 5),
                "setRoot(6, 0) = -1; referenceCount(0) = 6");
        sentences.holds("the object to refer to, or NONE to make the root empty",
                THREE_KINDS, "setRoot(0, 0) = -9; setRoot(0, 1) = 0; setRoot(0, 2) = 1;"
                + "setRoot(0, -9) = 2; root(0) = -9; reachableCount() = 0; setRoot(0, 1) = -9");
        sentences.holds("Returns the previous content of the root (NONE if it was empty)",
                Calls.plainObjects(0, 1), "setRoot(5, 1) = -9; setRoot(5, 0) = 1; setRoot(4, 1) = -9;"
                + "setRoot(5, -9) = 0; setRoot(5, 0) = -9");
        sentences.holds("INVALID_ARGUMENT if root is out of range",
                "allocate() = 0;", Calls.outside(5, "setRoot(#, 0) = -1; setRoot(#, -9) = -1;"));
        sentences.holds("if target is neither NONE nor allocated",
                "setRoot(0, 0) = -1;", WITH_FREED,
                Calls.each("setRoot(0, #) = -1; setRoot(5, #) = -1;", 3, 4, 23),
                Calls.neverAllocated("setRoot(0, #) = -1;").replace(", -9) = -1", ", -9) = -2"),
                "root(5) = 2; setRoot(5, -9) = 2");
        sentences.holds("ILLEGAL_STATE if the root already has this content.",
                "allocate() = 0; setRoot(0, -9) = -2; setRoot(0, 0) = -9; setRoot(0, 0) = -2;"
                + "setRoot(1, 0) = -9; setRoot(0, -9) = 0; setRoot(0, -9) = -2; undoDepth() = 4;"
                + "undo() = 3; setRoot(0, 0) = -2");
    }

    private static void root(Sentences sentences) {
        sentences.section("Promise 9: root");
        sentences.holds("Returns a root.",
                Calls.plainObjects(0, 5), Calls.counted("setRoot(#, #) = -9;", 0, 5),
                Calls.counted("root(#) = #;", 0, 5), "undoDepth() = 6");
        sentences.holds("index of the root, 0 to 5",
                "root(-1) = -1;", Calls.counted("root(#) = -9;", 0, 5), "root(6) = -1");
        sentences.holds("Returns the object that the root refers to",
                THREE_KINDS, "setRoot(0, 2) = -9; setRoot(2, 1) = -9; setRoot(5, 1) = -9;"
                + "root(0) = 2; root(2) = 1; root(5) = 1; collect() = 1; root(0) = 2; root(5) = 1");
        sentences.holds("INVALID_ARGUMENT if root is out of range",
                "allocate() = 0; setRoot(0, 0) = -9; setRoot(5, 0) = -9;",
                Calls.outside(5, "root(#) = -1;"));
        sentences.holds("NONE if the root is empty.",
                "root(3) = -9; allocate() = 0; setRoot(3, 0) = -9; root(2) = -9; root(4) = -9;"
                + "setRoot(3, -9) = 0; root(3) = -9");
    }

    private static void target(Sentences sentences) {
        sentences.section("Promise 10: target");
        sentences.holds("Returns the target of a weak reference.",
                Calls.plainObjects(0, 21), "allocateWeak(0) = 22; allocateWeak(21) = 23;"
                + "target(22) = 0; target(23) = 21; undoDepth() = 6");
        sentences.holds("a weak reference",
                THREE_KINDS, "target(2) = 0; target(0) = -1; target(1) = -1");
        sentences.holds("Returns the target;",
                "allocateTable() = 0; allocateWeak(0) = 1; setRoot(0, 0) = -9; setRoot(1, 1) = -9;"
                + "target(1) = 0; collect() = 0; target(1) = 0; setRoot(0, -9) = 0; target(1) = 0");
        sentences.holds("INVALID_ARGUMENT if reference is not allocated or no weak reference",
                "target(0) = -1;", WITH_FREED, Calls.neverAllocated("target(#) = -1;"),
                Calls.each("target(#) = -1;", 0, 1, 3, 4, 23));
        sentences.holds("INVALID_ARGUMENT if reference is not allocated or no weak reference",
                "allocate() = 0; allocateWeak(0) = 1; collect() = 2; target(1) = -1; allocate() = 0;"
                + "allocate() = 1; target(1) = -1");
        sentences.holds("NONE if it is empty.",
                "allocate() = 0; allocateWeak(0) = 1; setRoot(0, 1) = -9; collect() = 1;"
                + "target(1) = -9; allocate() = 0; target(1) = -9; undo() = 4; undo() = 3;"
                + "target(1) = 0");
    }

    private static void setFinalizable(Sentences sentences) {
        sentences.section("Promise 11: setFinalizable");
        sentences.holds("Makes an object finalizable, or not finalizable.",
                Calls.plainObjects(0, 1), "setFinalizable(0, 1) = 1; setFinalizable(1, 1) = 2;"
                + "setFinalizable(0, 0) = 1; collect() = 1; kind(0) = -9; pollNotice() = 3001;"
                + "pollNotice() = -2");
        sentences.holds("any object",
                THREE_KINDS, Calls.counted("setFinalizable(#, 1) = 1; setFinalizable(#, 0) = 0;", 0, 2),
                "setFinalizable(2, 1) = 1; collect() = 2; kind(0) = -9; pollNotice() = 3002");
        sentences.holds("1 for finalizable, 0 for not finalizable",
                "allocate() = 0; setFinalizable(0, 1) = 1; setFinalizable(0, 0) = 0; collect() = 1;"
                + "noticeCount() = 0; allocate() = 0; setFinalizable(0, 1) = 1; collect() = 0;"
                + "noticeCount() = 1");
        sentences.holds("Returns the number of finalizable objects afterwards",
                Calls.plainObjects(0, 23), Calls.counted("setFinalizable(#, 1) = #;", 1, 23),
                "setFinalizable(0, 1) = 24; setFinalizable(23, 0) = 23; setFinalizable(22, 0) = 22;"
                + "undo() = 5; setFinalizable(0, 0) = 22; setRoot(0, 5) = -9; collect() = 2;"
                + "setFinalizable(5, 0) = 0");
        sentences.holds("INVALID_ARGUMENT if object is not allocated",
                "setFinalizable(0, 1) = -1; setFinalizable(0, 0) = -1;", WITH_FREED,
                Calls.neverAllocated("setFinalizable(#, 1) = -1; setFinalizable(#, 0) = -1;"),
                Calls.each("setFinalizable(#, 1) = -1; setFinalizable(#, 0) = -1;", 3, 4, 23));
        sentences.holds("if on is neither 0 nor 1",
                Calls.plainObjects(0, 1), "setFinalizable(1, 1) = 1;",
                Calls.outside(1, "setFinalizable(0, #) = -1; setFinalizable(1, #) = -1;"),
                "setFinalizable(0, 0) = -2; setFinalizable(1, 1) = -2");
        sentences.holds("ILLEGAL_STATE if the object already is as requested.",
                "allocate() = 0; setFinalizable(0, 0) = -2; setFinalizable(0, 1) = 1;"
                + "setFinalizable(0, 1) = -2; undoDepth() = 2; setFinalizable(0, 0) = 0;"
                + "setFinalizable(0, 0) = -2; setFinalizable(0, 1) = 1; collect() = 0;"
                + "setFinalizable(0, 0) = -2; setFinalizable(0, 1) = 1; undoDepth() = 6");
    }
}
