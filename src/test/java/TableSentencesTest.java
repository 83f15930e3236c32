import java.io.IOException;

/** The sentences of promises 12 to 16, each with a test of its own. */
public final class TableSentencesTest {
    /** A table 0, a plain object 1, a weak reference 2, another table 3; 4 was freed. */
    private static final String HEAP = "allocateTable() = 0; allocate() = 1; allocateWeak(1) = 2;"
            + "allocateTable() = 3; allocate() = 4;" + Calls.counted("setRoot(#, #) = -9;", 0, 3)
            + "put(0, 4, 1) = -9; collect() = 1; pollNotice() = 2004; entryCount(0) = 0;";
    /** A table 0 with the keys 6, 5, 4, 3, 2, 1, whose values are 1, 2, 3, 4, 5, 6, and an object 7. */
    private static final String FULL = "allocateTable() = 0;" + Calls.plainObjects(1, 7)
            + "put(0, 6, 1) = -9; put(0, 5, 2) = -9; put(0, 4, 3) = -9; put(0, 3, 4) = -9;"
            + "put(0, 2, 5) = -9; put(0, 1, 6) = -9;";
    private static final String NO_TABLE = "INVALID_ARGUMENT if table is not allocated or no table";

    public static void main(String[] args) throws IOException {
        Sentences sentences = new Sentences();
        put(sentences);
        refusedPut(sentences);
        get(sentences);
        removeEntry(sentences);
        entryCount(sentences);
        entryKey(sentences);
        sentences.end();
    }

    private static void put(Sentences sentences) {
        sentences.section("Promise 12: put");
        sentences.holds("Puts an entry into a table.",
                Calls.tables(0, 23), "put(23, 0, 23) = -9; put(0, 23, 0) = -9; get(23, 0) = 23;"
                + "get(0, 23) = 0; entryCount(23) = 1; entryCount(0) = 1; entryCount(22) = 0;"
                + "entryCount(1) = 0; undo() = 5; entryCount(0) = 0; entryCount(23) = 1");
        sentences.holds("If the table has an entry with this key, its value is replaced and its place"
                + " in the order stays;",
                FULL, "put(0, 6, 7) = 1; put(0, 3, 0) = 4; put(0, 1, 1) = 6; get(0, 6) = 7;"
                + "get(0, 5) = 2; get(0, 3) = 0; get(0, 1) = 1; entryCount(0) = 6;"
                + "entryKey(0, 0) = 6; entryKey(0, 1) = 5; entryKey(0, 2) = 4; entryKey(0, 3) = 3;"
                + "entryKey(0, 4) = 2; entryKey(0, 5) = 1");
        sentences.holds("otherwise a new entry is added at the end.",
                HEAP, "put(0, 3, 1) = -9; put(0, 0, 1) = -9; put(0, 2, 1) = -9; put(0, 1, 1) = -9;"
                + "entryKey(0, 0) = 3; entryKey(0, 1) = 0; entryKey(0, 2) = 2; entryKey(0, 3) = 1;"
                + "removeEntry(0, 0) = 1; put(0, 0, 0) = -9; entryKey(0, 1) = 2;"
                + "entryKey(0, 2) = 1; entryKey(0, 3) = 0; entryKey(0, 4) = -9; entryCount(0) = 4");
        sentences.holds("a table",
                HEAP, "put(0, 1, 1) = -9; put(3, 1, 1) = -9; put(1, 1, 1) = -1; put(2, 1, 1) = -1");
        sentences.holds("any object",
                HEAP, Calls.counted("put(0, #, #) = -9; get(0, #) = #;", 0, 3),
                Calls.counted("entryKey(0, #) = #;", 0, 3));
        sentences.holds("Returns the previous value of the key, or NONE if it had no entry",
                HEAP, "put(0, 1, 2) = -9; put(0, 1, 0) = 2; put(0, 1, 0) = 0; put(0, 2, 0) = -9;"
                + "put(3, 1, 1) = -9; removeEntry(0, 1) = 0; put(0, 1, 1) = -9; undoDepth() = 6");
    }

    private static void refusedPut(Sentences sentences) {
        sentences.holds(NO_TABLE,
                "put(0, 0, 0) = -1;", HEAP, Calls.neverAllocated("put(#, 1, 1) = -1;"),
                Calls.each("put(#, 1, 1) = -1;", 1, 2, 4, 5, 23));
        sentences.holds("if key or value is not allocated",
                HEAP, "put(0, 1, 1) = -9;",
                Calls.neverAllocated("put(0, #, 1) = -1; put(0, 1, #) = -1; put(0, #, #) = -1;"),
                Calls.each("put(0, #, 1) = -1; put(0, 1, #) = -1; put(0, 2, #) = -1;", 4, 5, 23),
                "entryCount(0) = 1; get(0, 1) = 1");
        sentences.holds("CAPACITY_EXCEEDED if a new entry would be the seventh.",
                FULL, "put(0, 7, 1) = -3; put(0, 0, 0) = -3; entryCount(0) = 6; put(0, 1, 7) = 6;"
                + "put(0, 7, 1) = -3; undo() = 5; undo() = 4; put(0, 7, 1) = -9; put(0, 1, 1) = -3;"
                + "removeEntry(0, 4) = 3; put(0, 1, 1) = -9; put(0, 4, 4) = -3; put(0, 7, 7) = 1");
        sentences.holds("CAPACITY_EXCEEDED if a new entry would be the seventh.",
                FULL, "setRoot(0, 0) = -9; setRoot(1, 3) = -9; setRoot(2, 7) = -9; collect() = 4;"
                + "entryCount(0) = 2; entryKey(0, 0) = 4; entryKey(0, 1) = 3; put(0, 7, 7) = -9;"
                + "put(0, 0, 0) = -9; allocate() = 1; allocate() = 2; put(0, 1, 1) = -9;"
                + "put(0, 2, 2) = -9; allocate() = 5; put(0, 5, 5) = -3; entryKey(0, 5) = 2");
    }

    private static void get(Sentences sentences) {
        sentences.section("Promise 13: get");
        sentences.holds("Returns the value of a key.",
                FULL, "get(0, 6) = 1; get(0, 5) = 2; get(0, 4) = 3; get(0, 3) = 4; get(0, 2) = 5;"
                + "get(0, 1) = 6; undoDepth() = 6");
        sentences.holds("a table", HEAP, "get(0, 1) = -9; get(3, 1) = -9; get(1, 1) = -1; get(2, 1) = -1");
        sentences.holds("any object",
                HEAP, Calls.counted("get(0, #) = -9; put(0, #, 1) = -9; get(0, #) = 1;", 0, 3));
        sentences.holds("Returns the value;",
                Calls.tables(0, 23), "put(23, 22, 21) = -9; put(23, 23, 0) = -9; get(23, 22) = 21;"
                + "get(23, 23) = 0; get(22, 23) = -9; put(23, 23, 23) = 0; get(23, 23) = 23");
        sentences.holds(NO_TABLE,
                "get(0, 0) = -1;", HEAP, Calls.neverAllocated("get(#, 1) = -1;"),
                Calls.each("get(#, 1) = -1;", 1, 2, 4, 5, 23));
        sentences.holds("if key is not allocated",
                HEAP, "put(0, 1, 2) = -9;", Calls.neverAllocated("get(0, #) = -1;"),
                Calls.each("get(0, #) = -1;", 4, 5, 23));
        sentences.holds("NONE if the table has no entry with this key.",
                HEAP, "get(0, 0) = -9; put(0, 1, 2) = -9; get(0, 2) = -9; get(3, 1) = -9;"
                + "removeEntry(0, 1) = 2; get(0, 1) = -9; allocate() = 4; get(0, 4) = -9");
    }

    private static void removeEntry(Sentences sentences) {
        sentences.section("Promise 14: removeEntry");
        sentences.holds("Removes an entry from a table.",
                FULL, "removeEntry(0, 6) = 1; entryKey(0, 0) = 5; entryCount(0) = 5;"
                + "removeEntry(0, 1) = 6; entryKey(0, 3) = 2; entryKey(0, 4) = -9;"
                + "removeEntry(0, 3) = 4; entryKey(0, 0) = 5; entryKey(0, 1) = 4; entryKey(0, 2) = 2;"
                + "entryCount(0) = 3; get(0, 5) = 2; get(0, 4) = 3; get(0, 2) = 5; get(0, 3) = -9;"
                + "removeEntry(0, 5) = 2; removeEntry(0, 2) = 5; removeEntry(0, 4) = 3;"
                + "entryCount(0) = 0; entryKey(0, 0) = -9; undo() = 5; entryCount(0) = 1");
        sentences.holds("Removes an entry from a table.",
                Calls.tables(0, 23), Calls.counted("put(23, #, 1) = -9;", 0, 5),
                Calls.counted("put(22, #, 2) = -9;", 0, 5), "removeEntry(23, 0) = 1;"
                + "entryCount(23) = 5; entryKey(23, 0) = 1; get(23, 0) = -9; entryCount(22) = 6;"
                + "removeEntry(22, 5) = 2; entryCount(22) = 5; entryKey(22, 5) = -9;"
                + "entryCount(23) = 5; entryKey(23, 4) = 5");
        sentences.holds("a table",
                HEAP, "put(3, 1, 2) = -9; removeEntry(3, 1) = 2; removeEntry(1, 1) = -1;"
                + "removeEntry(2, 1) = -1");
        sentences.holds("any object",
                HEAP, Calls.counted("put(0, #, 1) = -9;", 0, 3),
                Calls.counted("removeEntry(0, #) = 1;", 0, 3), "entryCount(0) = 0");
        sentences.holds("Returns the value of the removed entry",
                Calls.tables(0, 23), "put(23, 1, 22) = -9; put(0, 1, 3) = -9; put(23, 0, 23) = -9;"
                + "removeEntry(23, 1) = 22; removeEntry(23, 0) = 23; removeEntry(0, 1) = 3");
        sentences.holds(NO_TABLE,
                "removeEntry(0, 0) = -1;", HEAP, Calls.neverAllocated("removeEntry(#, 1) = -1;"),
                Calls.each("removeEntry(#, 1) = -1;", 1, 2, 4, 5, 23));
        sentences.holds("if key is not allocated",
                HEAP, "put(0, 1, 2) = -9;", Calls.neverAllocated("removeEntry(0, #) = -1;"),
                Calls.each("removeEntry(0, #) = -1;", 4, 5, 23), "entryCount(0) = 1");
        sentences.holds("ILLEGAL_STATE if the table has no entry with this key.",
                HEAP, "removeEntry(0, 1) = -2; put(0, 1, 2) = -9; removeEntry(0, 2) = -2;"
                + "removeEntry(0, 0) = -2; removeEntry(3, 1) = -2; removeEntry(0, 1) = 2;"
                + "removeEntry(0, 1) = -2; allocate() = 4; removeEntry(0, 4) = -2; undo() = 5;"
                + "undo() = 4; removeEntry(0, 1) = 2");
    }

    private static void entryCount(Sentences sentences) {
        sentences.section("Promise 15: entryCount");
        sentences.holds("Counts the entries of a table.",
                Calls.tables(0, 23), Calls.counted("put(23, #, 0) = -9;", 0, 5), "entryCount(23) = 6;"
                + "entryCount(22) = 0; entryCount(0) = 0; undo() = 5; entryCount(23) = 5");
        sentences.holds("a table", HEAP, "entryCount(0) = 0; entryCount(3) = 0; entryCount(1) = -1;"
                + "entryCount(2) = -1");
        sentences.holds("Returns the number of entries",
                HEAP, "entryCount(0) = 0; put(0, 0, 0) = -9; entryCount(0) = 1; put(0, 0, 1) = 0;"
                + "entryCount(0) = 1; put(0, 1, 1) = -9; entryCount(0) = 2; put(0, 2, 1) = -9;"
                + "put(0, 3, 1) = -9; entryCount(0) = 4; allocate() = 4; put(0, 4, 1) = -9;"
                + "allocate() = 5; entryCount(0) = 5; put(0, 5, 1) = -9; entryCount(0) = 6;"
                + "collect() = 2; entryCount(0) = 4; removeEntry(0, 1) = 1; entryCount(0) = 3");
        sentences.holds(NO_TABLE,
                "entryCount(0) = -1;", HEAP, Calls.neverAllocated("entryCount(#) = -1;"),
                Calls.each("entryCount(#) = -1;", 1, 2, 4, 5, 23));
    }

    private static void entryKey(Sentences sentences) {
        sentences.section("Promise 16: entryKey");
        sentences.holds("Returns the key of an entry.",
                FULL, "entryKey(0, 0) = 6; entryKey(0, 1) = 5; entryKey(0, 2) = 4; entryKey(0, 3) = 3;"
                + "entryKey(0, 4) = 2; entryKey(0, 5) = 1; undoDepth() = 6");
        sentences.holds("a table", HEAP, "entryKey(0, 0) = -9; entryKey(3, 0) = -9;"
                + "entryKey(1, 0) = -1; entryKey(2, 0) = -1");
        sentences.holds("place of the entry in the order of the table, from 0",
                HEAP, "put(0, 3, 0) = -9; put(0, 1, 0) = -9; put(0, 2, 0) = -9; entryKey(0, 0) = 3;"
                + "entryKey(0, 1) = 1; entryKey(0, 2) = 2; removeEntry(0, 3) = 0; entryKey(0, 0) = 1;"
                + "entryKey(0, 1) = 2; put(0, 1, 1) = 0; entryKey(0, 0) = 1; put(0, 3, 1) = -9;"
                + "entryKey(0, 2) = 3");
        sentences.holds("Returns the key;",
                Calls.tables(0, 23), Calls.counted("put(23, #, 0) = -9;", 18, 23),
                "put(22, 0, 23) = -9; entryKey(23, 0) = 18; entryKey(23, 5) = 23;"
                + "entryKey(22, 0) = 0; entryKey(22, 1) = -9; entryKey(22, 6) = -9");
        sentences.holds(NO_TABLE,
                "entryKey(0, 0) = -1;", HEAP, Calls.neverAllocated("entryKey(#, 0) = -1;"),
                Calls.each("entryKey(#, 0) = -1; entryKey(#, 6) = -1;", 1, 2, 4, 5, 23));
        sentences.holds("if index is negative",
                FULL, Calls.each("entryKey(0, #) = -1;", -1, -2, -6, -9, -32, -(1 << 30),
                Integer.MIN_VALUE, Integer.MIN_VALUE + 1));
        sentences.holds("NONE if there is no such entry.",
                HEAP, "entryKey(0, 0) = -9; put(0, 1, 1) = -9; entryKey(0, 0) = 1;"
                + "entryKey(0, 1) = -9; entryKey(0, 5) = -9; removeEntry(0, 1) = 1;"
                + "entryKey(0, 0) = -9;", Calls.each("entryKey(0, #) = -9;", 6, 7, 24, 32, 1 << 30,
                (1 << 30) + 1, Integer.MAX_VALUE));
        sentences.holds("NONE if there is no such entry.",
                FULL, "entryKey(0, 5) = 1;", Calls.each("entryKey(0, #) = -9;", 6, 7, 12, 24, 32, 256,
                1 << 30, Integer.MAX_VALUE - 5, Integer.MAX_VALUE));
    }
}
