import java.util.Arrays;

/**
 * A model of a garbage-collected heap with ephemeron tables, weak references and finalizable
 * objects.
 *
 * <p>Inside, a set of objects is an int whose bit i stands for the object i: 24 objects fit, and
 * no call has to make anything to mark or to compare.
 */
public final class WeakTableHeap {
    public static final int INVALID_ARGUMENT = -1;
    public static final int ILLEGAL_STATE = -2;
    public static final int CAPACITY_EXCEEDED = -3;
    public static final int NONE = -9;

    private static final int OBJECTS = 24;
    private static final int FIELDS = 3;
    private static final int ENTRIES = 6;
    private static final int ROOTS = 6;
    private static final int NOTICES = 20;
    private static final int SAVED_STATES = 6;
    private static final int SLOTS = 2;

    private static final int PLAIN = 0;
    private static final int TABLE = 1;
    private static final int WEAK = 2;

    private static final int WEAK_NOTICE = 1000;
    private static final int ENTRY_NOTICE = 2000;
    private static final int ENTRY_NOTICE_STEP = 32;
    private static final int FINALIZE_NOTICE = 3000;

    private static final int EMPTY_SET = 0;

    private final State state = new State();
    private final History history = new History();
    private final State[] slots = new State[SLOTS];
    private final Marking marking = new Marking();

    public WeakTableHeap() {
    }

    // ---- objects

    public int allocate() {
        return occupyNext(PLAIN, NONE);
    }

    public int allocateTable() {
        return occupyNext(TABLE, NONE);
    }

    public int allocateWeak(int target) {
        if (!state.isAllocated(target)) {
            return INVALID_ARGUMENT;
        }
        return occupyNext(WEAK, target);
    }

    private int occupyNext(int kind, int target) {
        int object = state.smallestFree();
        if (object == NONE) {
            return CAPACITY_EXCEEDED;
        }
        history.push(state);
        state.occupy(object, kind, target);
        return object;
    }

    public int kind(int object) {
        return within(object, OBJECTS) ? state.kinds[object] : NONE;
    }

    public int setField(int object, int field, int target) {
        if (!state.hasKind(object, PLAIN) || !within(field, FIELDS) || !state.isContent(target)) {
            return INVALID_ARGUMENT;
        }
        int place = object * FIELDS + field;
        int previous = state.fields[place];
        if (previous == target) {
            return ILLEGAL_STATE;
        }
        history.push(state);
        state.fields[place] = target;
        return previous;
    }

    public int field(int object, int field) {
        if (!state.hasKind(object, PLAIN) || !within(field, FIELDS)) {
            return INVALID_ARGUMENT;
        }
        return state.fields[object * FIELDS + field];
    }

    public int setRoot(int root, int target) {
        if (!within(root, ROOTS) || !state.isContent(target)) {
            return INVALID_ARGUMENT;
        }
        int previous = state.roots[root];
        if (previous == target) {
            return ILLEGAL_STATE;
        }
        history.push(state);
        state.roots[root] = target;
        return previous;
    }

    public int root(int root) {
        return within(root, ROOTS) ? state.roots[root] : INVALID_ARGUMENT;
    }

    public int target(int reference) {
        return state.hasKind(reference, WEAK) ? state.targets[reference] : INVALID_ARGUMENT;
    }

    public int setFinalizable(int object, int on) {
        if (!state.isAllocated(object) || (on != 0 && on != 1)) {
            return INVALID_ARGUMENT;
        }
        if (contains(state.finalizable, object) == (on == 1)) {
            return ILLEGAL_STATE;
        }
        history.push(state);
        state.finalizable ^= setOf(object);
        return Integer.bitCount(state.finalizable);
    }

    // ---- tables

    public int put(int table, int key, int value) {
        if (!state.isTableAndKey(table, key) || !state.isAllocated(value)) {
            return INVALID_ARGUMENT;
        }
        int place = state.placeOfKey(table, key);
        if (place == NONE) {
            place = state.placeOfKey(table, NONE);
        }
        if (place == NONE) {
            return CAPACITY_EXCEEDED;
        }
        history.push(state);
        int previous = state.values[place];
        state.keys[place] = key;
        state.values[place] = value;
        return previous;
    }

    public int get(int table, int key) {
        if (!state.isTableAndKey(table, key)) {
            return INVALID_ARGUMENT;
        }
        int place = state.placeOfKey(table, key);
        return place == NONE ? NONE : state.values[place];
    }

    public int removeEntry(int table, int key) {
        if (!state.isTableAndKey(table, key)) {
            return INVALID_ARGUMENT;
        }
        int place = state.placeOfKey(table, key);
        if (place == NONE) {
            return ILLEGAL_STATE;
        }
        history.push(state);
        int value = state.values[place];
        state.keepEntries(table, ~setOf(key));
        return value;
    }

    public int entryCount(int table) {
        if (!state.hasKind(table, TABLE)) {
            return INVALID_ARGUMENT;
        }
        int firstEmpty = state.placeOfKey(table, NONE);
        return firstEmpty == NONE ? ENTRIES : firstEmpty - table * ENTRIES;
    }

    public int entryKey(int table, int index) {
        if (!state.hasKind(table, TABLE) || index < 0) {
            return INVALID_ARGUMENT;
        }
        return index < ENTRIES ? state.keys[table * ENTRIES + index] : NONE;
    }

    // ---- collection and notices

    public int collect() {
        history.push(state);
        // The document's order: a target is given up before step 3 may bring it back.
        markFromRoots();
        state.roundsOfCollection = marking.lastRound;
        state.emptyWeakReferences(marking.marked, true);
        int lost = state.finalizable & ~marking.marked;
        state.finalizeObjects(lost);
        markFromRootsAnd(lost);
        state.removeEntriesWithoutKey(marking.marked);
        state.emptyWeakReferences(marking.marked, false);
        int freed = state.allocated() & ~marking.marked;
        state.free(freed);
        return Integer.bitCount(freed);
    }

    public int lastRounds() {
        return state.roundsOfCollection;
    }

    public int pollNotice() {
        if (state.notices.size == 0) {
            return ILLEGAL_STATE;
        }
        history.push(state);
        return state.notices.removeOldest();
    }

    public int noticeCount() {
        return state.notices.size;
    }

    // ---- queries

    public int objectCount() {
        return Integer.bitCount(state.allocated());
    }

    public int reachableCount() {
        markFromRoots();
        return Integer.bitCount(marking.marked);
    }

    public int markRound(int object) {
        if (!state.isAllocated(object)) {
            return INVALID_ARGUMENT;
        }
        markFromRoots();
        return marking.rounds[object];
    }

    public int wouldFree() {
        // A finalizable object that is reachable adds nothing, so it need not be left out.
        markFromRootsAnd(state.finalizable);
        return Integer.bitCount(state.allocated() & ~marking.marked);
    }

    public int retainedSize(int object) {
        if (!state.isAllocated(object)) {
            return INVALID_ARGUMENT;
        }
        markFromRoots();
        int reachable = marking.marked;
        marking.run(state, state.rootObjects(), setOf(object));
        return Integer.bitCount(reachable & ~marking.marked);
    }

    public int waitingEntries(int key) {
        if (!state.isAllocated(key)) {
            return INVALID_ARGUMENT;
        }
        markFromRoots();
        return contains(marking.marked, key) ? 0 : state.tablesWithKey(marking.marked, key);
    }

    public int referenceCount(int object) {
        if (!state.isAllocated(object)) {
            return INVALID_ARGUMENT;
        }
        return occurrences(state.roots, object)
                + occurrences(state.fields, object)
                + occurrences(state.keys, object)
                + occurrences(state.values, object)
                + occurrences(state.targets, object);
    }

    private void markFromRoots() {
        marking.run(state, state.rootObjects(), EMPTY_SET);
    }

    private void markFromRootsAnd(int objects) {
        marking.run(state, state.rootObjects() | objects, EMPTY_SET);
    }

    // ---- undo and snapshots

    public int undo() {
        if (!history.popInto(state)) {
            return ILLEGAL_STATE;
        }
        return history.depth;
    }

    public int undoDepth() {
        return history.depth;
    }

    public int save(int slot) {
        if (!within(slot, SLOTS)) {
            return INVALID_ARGUMENT;
        }
        if (slots[slot] == null) {
            slots[slot] = new State();
        }
        slots[slot].copyFrom(state);
        return Integer.bitCount(state.allocated());
    }

    public int restore(int slot) {
        if (!within(slot, SLOTS)) {
            return INVALID_ARGUMENT;
        }
        if (slots[slot] == null) {
            return ILLEGAL_STATE;
        }
        state.copyFrom(slots[slot]);
        history.forget();
        return Integer.bitCount(state.allocated());
    }

    // ---- what all parts use

    private static boolean within(int index, int bound) {
        return index >= 0 && index < bound;
    }

    private static int setOf(int object) {
        return object >= 0 && object < OBJECTS ? 1 << object : EMPTY_SET;
    }

    private static boolean contains(int set, int object) {
        return (set & setOf(object)) != EMPTY_SET;
    }

    private static int[] emptyRow(int length) {
        int[] row = new int[Math.max(length, 0)];
        Arrays.fill(row, NONE);
        return row;
    }

    private static void copyRow(int[] from, int[] to) {
        System.arraycopy(from, 0, to, 0, Math.min(from.length, to.length));
    }

    private static int occurrences(int[] row, int object) {
        int count = 0;
        for (int i = 0; i < row.length; i++) {
            if (row[i] == object) {
                count++;
            }
        }
        return count;
    }

    /**
     * What undo and snapshots keep. Every object has places for all three kinds; those that its
     * kind does not use hold NONE, as do all places of an identifier that is not in use, so that
     * whoever follows references need not ask for the kind.
     */
    private static final class State {
        final int[] kinds = emptyRow(OBJECTS);
        final int[] fields = emptyRow(OBJECTS * FIELDS);
        final int[] keys = emptyRow(OBJECTS * ENTRIES);
        final int[] values = emptyRow(OBJECTS * ENTRIES);
        final int[] targets = emptyRow(OBJECTS);
        final int[] roots = emptyRow(ROOTS);
        final Notices notices = new Notices();
        int finalizable;
        int roundsOfCollection;

        void copyFrom(State other) {
            copyRow(other.kinds, kinds);
            copyRow(other.fields, fields);
            copyRow(other.keys, keys);
            copyRow(other.values, values);
            copyRow(other.targets, targets);
            copyRow(other.roots, roots);
            notices.copyFrom(other.notices);
            finalizable = other.finalizable;
            roundsOfCollection = other.roundsOfCollection;
        }

        boolean isAllocated(int object) {
            return within(object, OBJECTS) && kinds[object] != NONE;
        }

        boolean hasKind(int object, int kind) {
            return within(object, OBJECTS) && kinds[object] == kind;
        }

        boolean isContent(int target) {
            return target == NONE || isAllocated(target);
        }

        boolean isTableAndKey(int table, int key) {
            return hasKind(table, TABLE) && isAllocated(key);
        }

        int smallestFree() {
            for (int object = 0; object < OBJECTS; object++) {
                if (kinds[object] == NONE) {
                    return object;
                }
            }
            return NONE;
        }

        void occupy(int object, int kind, int target) {
            if (within(object, OBJECTS)) {
                kinds[object] = kind;
                targets[object] = target;
            }
        }

        int allocated() {
            int set = EMPTY_SET;
            for (int object = 0; object < OBJECTS; object++) {
                if (kinds[object] != NONE) {
                    set |= setOf(object);
                }
            }
            return set;
        }

        int rootObjects() {
            int set = EMPTY_SET;
            for (int root = 0; root < ROOTS; root++) {
                set |= setOf(roots[root]);
            }
            return set;
        }

        int fieldTargets(int objects) {
            int set = EMPTY_SET;
            for (int object = 0; object < OBJECTS; object++) {
                if (contains(objects, object)) {
                    set |= fieldTargetsOf(object);
                }
            }
            return set;
        }

        private int fieldTargetsOf(int object) {
            int set = EMPTY_SET;
            for (int place = object * FIELDS; place < (object + 1) * FIELDS; place++) {
                set |= setOf(fields[place]);
            }
            return set;
        }

        int valuesOfEntries(int tables, int withKeys) {
            int set = EMPTY_SET;
            for (int table = 0; table < OBJECTS; table++) {
                if (contains(tables, table)) {
                    set |= valuesOfEntriesOf(table, withKeys);
                }
            }
            return set;
        }

        private int valuesOfEntriesOf(int table, int withKeys) {
            int set = EMPTY_SET;
            for (int place = table * ENTRIES; place < (table + 1) * ENTRIES; place++) {
                if (contains(withKeys, keys[place])) {
                    set |= setOf(values[place]);
                }
            }
            return set;
        }

        /** How many of the tables have an entry with the key: the keys of a table differ. */
        int tablesWithKey(int tables, int key) {
            int count = 0;
            for (int table = 0; table < OBJECTS; table++) {
                if (contains(tables, table) && placeOfKey(table, key) != NONE) {
                    count++;
                }
            }
            return count;
        }

        /** Where the key, or with NONE the first empty place, of a table is; NONE if nowhere. */
        int placeOfKey(int table, int key) {
            if (!within(table, OBJECTS)) {
                return NONE;
            }
            for (int place = table * ENTRIES; place < (table + 1) * ENTRIES; place++) {
                if (keys[place] == key) {
                    return place;
                }
            }
            return NONE;
        }

        /** Keeps the entries whose key is in the set, without gaps and in their order. */
        void keepEntries(int table, int withKeys) {
            if (!within(table, OBJECTS)) {
                return;
            }
            int end = table * ENTRIES;
            for (int place = table * ENTRIES; place < (table + 1) * ENTRIES; place++) {
                int key = keys[place];
                int value = values[place];
                keys[place] = NONE;
                values[place] = NONE;
                if (contains(withKeys, key)) {
                    keys[end] = key;
                    values[end] = value;
                    end++;
                }
            }
        }

        void emptyWeakReferences(int marked, boolean withNotice) {
            for (int object = 0; object < OBJECTS; object++) {
                boolean stale = targets[object] != NONE && !contains(marked, targets[object]);
                if (stale && contains(marked, object)) {
                    targets[object] = NONE;
                    if (withNotice) {
                        notices.issue(WEAK_NOTICE + object);
                    }
                }
            }
        }

        void finalizeObjects(int objects) {
            for (int object = 0; object < OBJECTS; object++) {
                if (contains(objects, object)) {
                    notices.issue(FINALIZE_NOTICE + object);
                }
            }
            finalizable &= ~objects;
        }

        void removeEntriesWithoutKey(int marked) {
            for (int table = 0; table < OBJECTS; table++) {
                if (contains(marked, table)) {
                    announceEntriesWithoutKey(table, marked);
                    keepEntries(table, marked);
                }
            }
        }

        private void announceEntriesWithoutKey(int table, int marked) {
            for (int place = table * ENTRIES; place < (table + 1) * ENTRIES; place++) {
                if (keys[place] != NONE && !contains(marked, keys[place])) {
                    notices.issue(ENTRY_NOTICE + ENTRY_NOTICE_STEP * table + keys[place]);
                }
            }
        }

        void free(int objects) {
            for (int object = 0; object < OBJECTS; object++) {
                if (contains(objects, object)) {
                    kinds[object] = NONE;
                    targets[object] = NONE;
                    Arrays.fill(fields, object * FIELDS, (object + 1) * FIELDS, NONE);
                    keepEntries(object, EMPTY_SET);
                }
            }
            finalizable &= ~objects;
        }
    }

    /** The notices, the oldest first. */
    private static final class Notices {
        final int[] queue = new int[NOTICES];
        int size;

        void copyFrom(Notices other) {
            copyRow(other.queue, queue);
            size = other.size;
        }

        void issue(int notice) {
            if (size >= NOTICES) {
                removeOldest();
            }
            if (within(size, NOTICES)) {
                queue[size] = notice;
                size++;
            }
        }

        int removeOldest() {
            int oldest = queue[0];
            System.arraycopy(queue, 1, queue, 0, NOTICES - 1);
            size = Math.max(size - 1, 0);
            return oldest;
        }
    }

    /** The last marking that was run; it is kept and used again, so that no call makes one. */
    private static final class Marking {
        final int[] rounds = new int[OBJECTS];
        int marked;
        int lastRound;
        private int unmarkable;

        void run(State heap, int start, int withoutObjects) {
            Arrays.fill(rounds, NONE);
            marked = EMPTY_SET;
            unmarkable = withoutObjects;
            lastRound = 0;
            markWithFields(heap, start);
            // A round that does not end the marking marks at least one object.
            for (int round = 1; round <= OBJECTS; round++) {
                int values = markable(heap.valuesOfEntries(marked, marked));
                if (values == EMPTY_SET) {
                    return;
                }
                lastRound = round;
                markWithFields(heap, values);
            }
        }

        private int markable(int objects) {
            return objects & ~marked & ~unmarkable;
        }

        private void markWithFields(State heap, int objects) {
            int fresh = markable(objects);
            for (int step = 0; step < OBJECTS && fresh != EMPTY_SET; step++) {
                number(fresh);
                marked |= fresh;
                fresh = markable(heap.fieldTargets(fresh));
            }
        }

        private void number(int objects) {
            for (int object = 0; object < OBJECTS; object++) {
                if (contains(objects, object)) {
                    rounds[object] = lastRound;
                }
            }
        }
    }

    /** The states saved for undo, in a ring; what lies beyond the depth is only kept for reuse. */
    private static final class History {
        private final State[] ring = new State[SAVED_STATES];
        private int next;
        int depth;

        void push(State current) {
            if (ring[next] == null) {
                ring[next] = new State();
            }
            ring[next].copyFrom(current);
            next = (next + 1) % SAVED_STATES;
            depth = Math.min(depth + 1, SAVED_STATES);
        }

        boolean popInto(State current) {
            int last = (next + SAVED_STATES - 1) % SAVED_STATES;
            if (depth == 0 || ring[last] == null) {
                return false;
            }
            current.copyFrom(ring[last]);
            next = last;
            depth--;
            return true;
        }

        void forget() {
            depth = 0;
        }
    }
}
