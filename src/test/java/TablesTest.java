/** Promises 12 to 16: the entries of tables. */
public final class TablesTest {
    private static final String MIN = "-2147483648";
    private static final String MAX = "2147483647";
    private static final String TABLE_AND_OTHERS =
            "allocateTable() = 0; allocate() = 1; allocateWeak(1) = 2; allocate() = 3;"
            + "allocate() = 4; allocate() = 5; allocate() = 6; allocateTable() = 7;";
    private static final String SIX_ENTRIES =
            "put(0, 6, 1) = -9; put(0, 5, 2) = -9; put(0, 4, 3) = -9; put(0, 3, 4) = -9;"
            + "put(0, 2, 5) = -9; put(0, 1, 6) = -9;";

    public static void main(String[] args) {
        Script script = new Script();
        putting(script);
        getting(script);
        removing(script);
        countingAndOrder(script);
        script.end();
    }

    private static void putting(Script script) {
        script.run("promise 12: put adds at the end and replaces in place",
                TABLE_AND_OTHERS,
                "put(0, 3, 1) = -9; put(0, 1, 3) = -9; put(0, 2, 2) = -9; put(0, 3, 4) = 1;"
                + "entryCount(0) = 3; entryKey(0, 0) = 3; entryKey(0, 1) = 1; entryKey(0, 2) = 2;"
                + "get(0, 3) = 4; get(0, 1) = 3; get(0, 2) = 2; entryCount(7) = 0");
        script.run("promise 12: the table itself may be key and value; the same value may be put again",
                "allocateTable() = 0; put(0, 0, 0) = -9; put(0, 0, 0) = 0; undoDepth() = 3;"
                + "entryCount(0) = 1; undo() = 2; entryCount(0) = 1; undo() = 1; entryCount(0) = 0");
        script.run("promise 12: six entries at most, and a full table still takes new values",
                TABLE_AND_OTHERS, SIX_ENTRIES,
                "put(0, 7, 1) = -3; put(0, 0, 0) = -3; put(0, 1, 0) = 6; put(0, 6, 6) = 1;"
                + "entryCount(0) = 6; entryKey(0, 5) = 1; undo() = 5; undo() = 4; get(0, 1) = 6;"
                + "removeEntry(0, 4) = 3; put(0, 7, 1) = -9; put(0, 4, 1) = -3");
        script.run("promise 12: wrong arguments come before a full table and change nothing",
                TABLE_AND_OTHERS, SIX_ENTRIES,
                "put(0, 8, 1) = -1; put(0, 7, 8) = -1; put(0, -9, 1) = -1; put(0, 7, -9) = -1;"
                + "put(1, 1, 1) = -1; put(2, 1, 1) = -1; put(8, 1, 1) = -1; put(-1, 1, 1) = -1;"
                + "put(24, 1, 1) = -1; put(" + MAX + ", 1, 1) = -1; put(0, " + MIN + ", 1) = -1;"
                + "put(0, 1, " + MAX + ") = -1; put(0, 1, -9) = -1; get(0, 1) = 6; undoDepth() = 6;"
                + "undo() = 5; entryCount(0) = 5");
    }

    private static void getting(Script script) {
        script.run("promise 13: get",
                TABLE_AND_OTHERS,
                "put(0, 3, 5) = -9; get(0, 3) = 5; get(0, 5) = -9; get(7, 3) = -9; get(0, 0) = -9;"
                + "get(0, 8) = -1; get(0, -9) = -1; get(0, -1) = -1; get(0, 24) = -1; get(1, 3) = -1;"
                + "get(2, 3) = -1; get(8, 3) = -1; get(-1, 3) = -1; get(24, 3) = -1;"
                + "get(" + MAX + ", 3) = -1; get(0, " + MIN + ") = -1; undoDepth() = 6");
    }

    private static void removing(Script script) {
        script.run("promise 14: removeEntry closes the gap",
                TABLE_AND_OTHERS, SIX_ENTRIES,
                "removeEntry(0, 4) = 3; entryCount(0) = 5; entryKey(0, 0) = 6; entryKey(0, 1) = 5;"
                + "entryKey(0, 2) = 3; entryKey(0, 3) = 2; entryKey(0, 4) = 1; entryKey(0, 5) = -9;"
                + "get(0, 4) = -9; get(0, 3) = 4; get(0, 1) = 6; removeEntry(0, 6) = 1;"
                + "entryKey(0, 0) = 5; removeEntry(0, 1) = 6; entryKey(0, 3) = -9; entryCount(0) = 3;"
                + "put(0, 6, 6) = -9; entryKey(0, 3) = 6; undoDepth() = 6");
        script.run("promise 14: wrong arguments change nothing",
                TABLE_AND_OTHERS,
                "put(0, 3, 5) = -9; removeEntry(0, 5) = -2; removeEntry(7, 3) = -2;"
                + "removeEntry(0, 8) = -1; removeEntry(0, -9) = -1; removeEntry(0, 24) = -1;"
                + "removeEntry(1, 3) = -1; removeEntry(2, 3) = -1; removeEntry(8, 3) = -1;"
                + "removeEntry(-1, 3) = -1; removeEntry(" + MAX + ", 3) = -1; removeEntry(0, " + MIN
                + ") = -1; entryCount(0) = 1; removeEntry(0, 3) = 5; removeEntry(0, 3) = -2;"
                + "undo() = 5; get(0, 3) = 5; undo() = 4; entryCount(0) = 0");
    }

    private static void countingAndOrder(Script script) {
        script.run("promise 15: entryCount",
                TABLE_AND_OTHERS, SIX_ENTRIES,
                "entryCount(0) = 6; entryCount(7) = 0; entryCount(1) = -1; entryCount(2) = -1;"
                + "entryCount(8) = -1; entryCount(-1) = -1; entryCount(24) = -1; entryCount(-9) = -1;"
                + "entryCount(" + MAX + ") = -1; entryCount(" + MIN + ") = -1; undoDepth() = 6");
        script.run("promise 16: entryKey",
                TABLE_AND_OTHERS, SIX_ENTRIES,
                "entryKey(0, 0) = 6; entryKey(0, 5) = 1; entryKey(0, 6) = -9; entryKey(0, 7) = -9;"
                + "entryKey(0, " + MAX + ") = -9; entryKey(0, -1) = -1; entryKey(0, -9) = -1;"
                + "entryKey(0, " + MIN + ") = -1; entryKey(7, 0) = -9; entryKey(1, 0) = -1;"
                + "entryKey(2, 0) = -1; entryKey(8, 0) = -1; entryKey(-1, 0) = -1;"
                + "entryKey(24, 0) = -1; entryKey(" + MAX + ", 0) = -1; undoDepth() = 6");
        script.run("promise 16: the last table's last entry",
                Calls.tables(0, 23), "put(23, 0, 1) = -9; put(23, 1, 1) = -9; put(23, 2, 1) = -9;"
                + "put(23, 3, 1) = -9; put(23, 4, 1) = -9; put(23, 5, 23) = -9; entryKey(23, 5) = 5;"
                + "get(23, 5) = 23; entryKey(23, 6) = -9; entryCount(23) = 6; entryCount(22) = 0");
    }
}
