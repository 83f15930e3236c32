import java.io.IOException;

/**
 * The sentences of the document's description, each with a test of its own: here those of the heap
 * and of marking, in classes of their own those of collections, of the state and of errors.
 */
public final class DescriptionSentencesTest {
    public static void main(String[] args) throws IOException {
        Sentences sentences = new Sentences();
        use(sentences);
        sentences.section("Description");
        identifiers(sentences);
        kinds(sentences);
        tables(sentences);
        selfReferenceAndRoots(sentences);
        marking(sentences);
        laterRounds(sentences);
        CollectionSentences.test(sentences);
        StateSentences.test(sentences);
        ErrorSentences.test(sentences);
        sentences.end();
    }

    private static void use(Sentences sentences) {
        sentences.section("What it is");
        sentences.leadsOn("A model of a garbage-collected heap with ephemeron tables, weak references"
                + " and finalizable objects.");
        sentences.holds("An object is used for at most 512 calls after it has been made;"
                + " what later calls answer is free.",
                Calls.times(85, "allocateTable() = 0; put(0, 0, 0) = -9; setFinalizable(0, 1) = 1;"
                + "collect() = 0; pollNotice() = 3000; collect() = 1;"),
                "allocateWeak(0) = -1; undoDepth() = 6");
    }

    private static void identifiers(Sentences sentences) {
        sentences.holds("The heap holds at most 24 objects.",
                Calls.plainObjects(0, 20), "allocateTable() = 21; allocateWeak(0) = 22;"
                + "objectCount() = 23; allocate() = 23; objectCount() = 24; allocate() = -3;"
                + "allocateTable() = -3; allocateWeak(0) = -3; objectCount() = 24; collect() = 24;"
                + "objectCount() = 0; allocateTable() = 0");
        sentences.holds("An allocated object has an identifier from 0 to 23",
                Calls.plainObjects(0, 23), "kind(0) = 0; kind(23) = 0;",
                Calls.neverAllocated("kind(#) = -9;"),
                "setRoot(0, 0) = -9; setRoot(5, 23) = -9; root(5) = 23; setField(23, 2, 0) = -9;"
                + "setField(0, 0, 23) = -9; field(23, 2) = 0; collect() = 22; kind(23) = 0");
        sentences.holds("allocating takes the smallest identifier that is not in use,"
                + " and a freed identifier may be used again.",
                Calls.plainObjects(0, 23), "setRoot(0, 1) = -9; setRoot(1, 12) = -9;",
                Calls.fieldChain(1, 10), Calls.fieldChain(12, 22),
                "collect() = 3; kind(0) = -9; kind(11) = -9; kind(23) = -9; allocateTable() = 0;"
                + "allocateWeak(0) = 11; allocate() = 23; allocate() = -3; undo() = 5; undo() = 4;"
                + "allocate() = 11; allocateTable() = 23; allocateTable() = -3; kind(11) = 0");
    }

    private static void kinds(Sentences sentences) {
        sentences.holds("There are three kinds of objects:",
                "allocate() = 0; allocateTable() = 1; allocateWeak(0) = 2; kind(0) = 0; kind(1) = 1;"
                + "kind(2) = 2; field(1, 0) = -1; field(2, 0) = -1; entryCount(0) = -1;"
                + "entryCount(2) = -1; target(0) = -1; target(1) = -1");
        sentences.holds("a plain object has three fields, numbered 0 to 2, each of which is empty or"
                + " refers to an object",
                "allocate() = 0; allocateTable() = 1; allocateWeak(1) = 2; field(0, 0) = -9;"
                + "field(0, 1) = -9; field(0, 2) = -9; setField(0, 0, 0) = -9;"
                + "setField(0, 1, 1) = -9; setField(0, 2, 2) = -9; field(0, 0) = 0; field(0, 1) = 1;"
                + "field(0, 2) = 2; setField(0, 1, -9) = 1; field(0, 0) = 0; field(0, 1) = -9;"
                + "field(0, 2) = 2;",
                Calls.outside(2, "field(0, #) = -1;"), Calls.outside(2, "setField(0, #, 1) = -1;"));
        sentences.holds("a weak reference is empty or refers to an object, its target.",
                "allocate() = 0; allocateWeak(0) = 1; setRoot(0, 1) = -9; target(1) = 0;"
                + "collect() = 1; target(1) = -9; allocate() = 0; target(1) = -9;"
                + "referenceCount(0) = 0; collect() = 1; target(1) = -9; noticeCount() = 1");
        sentences.holds("Every object is finalizable or not.",
                "allocate() = 0; allocateTable() = 1; allocateWeak(0) = 2;",
                Calls.counted("setFinalizable(#, 0) = -2; setFinalizable(#, 1) = 1;"
                + "setFinalizable(#, 1) = -2; setFinalizable(#, 0) = 0; setFinalizable(#, 0) = -2;", 0, 2));
        sentences.holds("A new heap has no objects, and all roots are empty.",
                "objectCount() = 0;", Calls.counted("kind(#) = -9;", 0, 23),
                Calls.counted("root(#) = -9;", 0, 5), Calls.counted("setRoot(#, -9) = -2;", 0, 5),
                Calls.counted("setRoot(0, #) = -1;", 0, 23), "undoDepth() = 0");
    }

    private static void tables(Sentences sentences) {
        sentences.holds("a table has at most 6 entries, each of which consists of a key and a value,"
                + " which are objects",
                "allocateTable() = 0;", Calls.plainObjects(1, 7),
                Calls.counted("put(0, #, 0) = -9;", 1, 5), "entryCount(0) = 5; put(0, 6, 7) = -9;"
                + "entryCount(0) = 6; put(0, 7, 6) = -3; put(0, 0, 6) = -3; put(0, 6, 6) = 7;"
                + "entryCount(0) = 6; removeEntry(0, 6) = 6; put(0, 6, -9) = -1;"
                + "put(0, -9, 6) = -1; entryCount(0) = 5; put(0, 7, 6) = -9; entryCount(0) = 6");
        sentences.holds("the keys of a table are pairwise different",
                "allocateTable() = 0; allocate() = 1; allocateTable() = 2; put(0, 1, 0) = -9;"
                + "put(0, 1, 1) = 0; put(0, 1, 2) = 1; entryCount(0) = 1; entryKey(0, 0) = 1;"
                + "entryKey(0, 1) = -9; put(2, 1, 0) = -9; get(0, 1) = 2; get(2, 1) = 0;"
                + "removeEntry(0, 1) = 2; get(0, 1) = -9; get(2, 1) = 0");
        sentences.holds("the entries are kept in the order in which their keys were put;",
                "allocateTable() = 0;", Calls.plainObjects(1, 5),
                Calls.each("put(0, #, 0) = -9;", 4, 1, 5, 0, 3), "put(0, 1, 1) = 0;"
                + "entryKey(0, 0) = 4; entryKey(0, 1) = 1; entryKey(0, 2) = 5; entryKey(0, 3) = 0;"
                + "entryKey(0, 4) = 3; removeEntry(0, 4) = 0; put(0, 4, 4) = -9;"
                + "entryKey(0, 0) = 1; entryKey(0, 3) = 3; entryKey(0, 4) = 4; setRoot(0, 0) = -9;"
                + "setRoot(1, 4) = -9; setRoot(2, 5) = -9; collect() = 3; entryKey(0, 0) = 5;"
                + "entryKey(0, 1) = 0; entryKey(0, 2) = 4; entryKey(0, 3) = -9");
    }

    private static void selfReferenceAndRoots(Sentences sentences) {
        sentences.holds("An object may refer to itself in all these ways.",
                "allocate() = 0; setField(0, 0, 0) = -9; setField(0, 1, 0) = -9;"
                + "setField(0, 2, 0) = -9; referenceCount(0) = 3; allocateTable() = 1;"
                + "put(1, 1, 1) = -9; get(1, 1) = 1; referenceCount(1) = 2; markRound(0) = -9;"
                + "markRound(1) = -9; allocateWeak(2) = -1; setRoot(0, 0) = -9;"
                + "setRoot(1, 1) = -9; markRound(0) = 0;"
                + "markRound(1) = 0; retainedSize(0) = 1; retainedSize(1) = 1; collect() = 0;"
                + "setRoot(0, -9) = 0; setRoot(1, -9) = 1; collect() = 2; noticeCount() = 0");
        sentences.holds("Besides there are 6 roots, numbered 0 to 5, each of which is empty or refers"
                + " to an object.",
                Calls.plainObjects(0, 6), Calls.counted("setRoot(#, #) = -9;", 0, 5),
                Calls.counted("root(#) = #;", 0, 5), Calls.outside(5, "root(#) = -1;"),
                Calls.outside(5, "setRoot(#, 6) = -1;"), "reachableCount() = 6;",
                Calls.counted("setRoot(#, -9) = #;", 0, 5), Calls.counted("root(#) = -9;", 0, 5),
                "reachableCount() = 0");
    }

    private static void marking(Sentences sentences) {
        sentences.holds("Marking starts from a set of objects and proceeds in rounds.",
                "reachableCount() = 0;", Calls.tables(0, 6),
                Calls.counted("put(#, #, 6) = -9;", 0, 5), "reachableCount() = 0; markRound(6) = -9;",
                "setRoot(5, 5) = -9; reachableCount() = 2; markRound(5) = 0; markRound(6) = 1;",
                Calls.counted("setRoot(#, #) = -9;", 0, 4), "reachableCount() = 7; setRoot(4, 6) = 4;"
                + "markRound(6) = 0; markRound(4) = -9; reachableCount() = 6");
        sentences.holds("Round 0 marks every object of the set, and every object that a field of a"
                + " marked plain object refers to, until no field leads to an unmarked object.",
                Calls.plainObjects(0, 23), Calls.fieldChain(0, 23), "setField(23, 2, 0) = -9;"
                + "reachableCount() = 0; setRoot(0, 12) = -9; reachableCount() = 24;",
                Calls.counted("markRound(#) = 0;", 0, 23), "setField(23, 2, -9) = 0;"
                + "reachableCount() = 12; markRound(11) = -9; markRound(12) = 0; markRound(23) = 0;"
                + "setField(14, 1, 4) = -9; setField(14, 2, 2) = -9; reachableCount() = 22;"
                + "markRound(1) = -9; markRound(2) = 0");
        sentences.holds("The number of a mark is the number of the round that marked the object.",
                "allocateTable() = 0; allocateTable() = 1; allocateTable() = 2; allocate() = 3;"
                + "setRoot(0, 0) = -9; put(0, 0, 1) = -9; put(1, 1, 2) = -9; put(2, 2, 3) = -9;"
                + "markRound(0) = 0; markRound(1) = 1; markRound(2) = 2; markRound(3) = 3;"
                + "put(1, 0, 3) = -9; markRound(3) = 2; put(0, 3, 3) = -9; markRound(3) = 2;"
                + "put(0, 0, 3) = 1; markRound(3) = 1; markRound(1) = -9; setRoot(1, 3) = -9;"
                + "markRound(3) = 0");
        sentences.holds("Entries and weak references do not mark anything in any other way: neither a"
                + " key nor a target is marked because a table or a weak reference refers to it.",
                "allocateTable() = 0; allocate() = 1; allocate() = 2; allocateWeak(2) = 3;"
                + "setRoot(0, 0) = -9; setRoot(1, 3) = -9; put(0, 1, 0) = -9; put(0, 2, 3) = -9;"
                + "reachableCount() = 2; markRound(1) = -9; markRound(2) = -9;"
                + "allocateTable() = 4; put(4, 0, 1) = -9; markRound(1) = -9; setRoot(2, 4) = -9;"
                + "markRound(1) = 1; markRound(2) = -9");
        sentences.holds("An object is reachable if marking from the objects that the roots refer to"
                + " marks it.",
                "allocateTable() = 0; allocate() = 1; allocate() = 2; setFinalizable(1, 1) = 1;"
                + "put(0, 1, 2) = -9; setRoot(0, 0) = -9; reachableCount() = 1; markRound(1) = -9;"
                + "setRoot(5, 1) = -9; reachableCount() = 3; markRound(2) = 1; setRoot(0, -9) = 0;"
                + "reachableCount() = 1; markRound(2) = -9; markRound(0) = -9");
    }

    private static void laterRounds(Sentences sentences) {
        sentences.holds("Each later round considers all entries of all tables that were marked before"
                + " the round began.",
                Calls.tables(0, 3), Calls.plainObjects(4, 9), "setRoot(0, 3) = -9;"
                + "put(3, 3, 0) = -9; put(3, 4, 1) = -9; put(3, 5, 1) = -9; put(3, 6, 1) = -9;"
                + "put(3, 7, 1) = -9; setRoot(1, 1) = -9; put(3, 1, 2) = -9; put(0, 3, 8) = -9;"
                + "put(1, 3, 9) = -9; put(2, 3, 7) = -9; markRound(0) = 1; markRound(2) = 1;"
                + "markRound(9) = 1; markRound(8) = 2; markRound(7) = 2; markRound(4) = -9");
        sentences.holds("Each later round considers all entries of all tables that were marked before"
                + " the round began.",
                Calls.tables(0, 23), "setRoot(0, 23) = -9;",
                Calls.counted("put(22, #, 11) = -9;", 18, 23), "put(0, 23, 12) = -9;"
                + "markRound(11) = -9; markRound(12) = -9; put(23, 23, 22) = -9; markRound(22) = 1;"
                + "markRound(11) = 2; markRound(12) = -9; put(23, 22, 0) = -9; markRound(0) = 2;"
                + "markRound(12) = 3");
        sentences.holds("It takes every such entry whose key was marked and whose value was not marked"
                + " before the round began, marks all these values, and then follows fields of marked"
                + " plain objects as round 0 does.",
                "allocateTable() = 0;", Calls.plainObjects(1, 8), "setRoot(0, 0) = -9;"
                + "put(0, 0, 1) = -9; put(0, 1, 2) = -9; put(0, 2, 0) = -9; put(0, 3, 4) = -9;"
                + "put(0, 5, 6) = -9; setField(1, 2, 3) = -9; setField(3, 1, 5) = -9;"
                + "markRound(1) = 1; markRound(3) = 1; markRound(5) = 1; markRound(2) = 2;"
                + "markRound(4) = 2; markRound(6) = 2; markRound(7) = -9; put(0, 7, 8) = -9;"
                + "markRound(8) = -9; setField(6, 0, 7) = -9; markRound(7) = 2; markRound(8) = 3");
        sentences.holds("Marking ends with the first round that marks nothing.",
                Calls.tables(0, 23), Calls.entryChain(0, 23), "setRoot(0, 0) = -9;",
                Calls.counted("markRound(#) = #;", 0, 23), "collect() = 0; lastRounds() = 23;"
                + "put(23, 23, 0) = -9; collect() = 0; lastRounds() = 23; removeEntry(11, 11) = 12;"
                + "markRound(11) = 11; markRound(12) = -9; reachableCount() = 12; collect() = 12;"
                + "lastRounds() = 11; removeEntry(0, 0) = 1; reachableCount() = 1; collect() = 11;"
                + "lastRounds() = 0");
    }
}
