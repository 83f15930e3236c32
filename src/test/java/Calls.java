/** Rows of calls, as Script reads them, that would be tedious to write out. */
final class Calls {
    /**
     * Numbers that no object ever has: just outside the range, the document's codes, numbers that
     * a shift or a mask would take for an object, and the ends of int.
     */
    static final int[] NEVER_ALLOCATED = {
        -1, 24, -2, -3, -8, -9, -10, 25, 31, 32, 55, 56, 64, 256, -24, -31, -32, 1 << 24, 1 << 30,
        -(1 << 29), Integer.MAX_VALUE, Integer.MAX_VALUE - 23, Integer.MIN_VALUE, Integer.MIN_VALUE + 23
    };

    private Calls() {
    }

    static String plainObjects(int first, int last) {
        return counted("allocate() = #;", first, last);
    }

    static String tables(int first, int last) {
        return counted("allocateTable() = #;", first, last);
    }

    /** The row once for each number from first to last, which takes the place of #. */
    static String counted(String row, int first, int last) {
        StringBuilder calls = new StringBuilder();
        for (int number = first; number <= last; number++) {
            calls.append(row.replace("#", Integer.toString(number)));
        }
        return calls.toString();
    }

    /** The row once for each of the numbers, which takes the place of #. */
    static String each(String row, int... numbers) {
        StringBuilder calls = new StringBuilder();
        for (int number : numbers) {
            calls.append(row.replace("#", Integer.toString(number)));
        }
        return calls.toString();
    }

    /** The row with every number in place of # that no object ever has. */
    static String neverAllocated(String row) {
        return each(row, NEVER_ALLOCATED);
    }

    /** The row with every number in place of # that is outside 0 to last. */
    static String outside(int last, String row) {
        return each(row, -1, last + 1, -2, last + 2, -9, last + 32, 1 << 30, -(1 << 29),
                Integer.MAX_VALUE, Integer.MIN_VALUE);
    }

    /** Fields 0 that lead from first over all between to last. */
    static String fieldChain(int first, int last) {
        StringBuilder calls = new StringBuilder();
        for (int object = first; object < last; object++) {
            calls.append("setField(" + object + ", 0, " + (object + 1) + ") = -9;");
        }
        return calls.toString();
    }

    /** One entry in each table from first up to the one before last: the table leads to the next. */
    static String entryChain(int first, int last) {
        StringBuilder calls = new StringBuilder();
        for (int table = first; table < last; table++) {
            calls.append("put(" + table + ", " + table + ", " + (table + 1) + ") = -9;");
        }
        return calls.toString();
    }

    /** Makes the objects finalizable, the first ones that are. */
    static String finalizable(int first, int last) {
        StringBuilder calls = new StringBuilder();
        for (int object = first; object <= last; object++) {
            calls.append("setFinalizable(" + object + ", 1) = " + (object - first + 1) + ";");
        }
        return calls.toString();
    }

    static String times(int count, String rows) {
        return rows.repeat(count);
    }
}
