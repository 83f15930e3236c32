import java.util.ArrayDeque;
import java.util.ArrayList;
import java.util.Arrays;
import java.util.Collections;
import java.util.Deque;
import java.util.LinkedHashMap;
import java.util.List;
import java.util.Map;
import java.util.Set;
import java.util.TreeMap;
import java.util.TreeSet;

/**
 * The document told once more, with the Java library and as literally as possible, so that random
 * runs have an answer that is due. It shares no code and no representation with WeakTableHeap.
 */
final class NaiveHeap {
    static final int INVALID = -1;
    static final int ILLEGAL = -2;
    static final int FULL = -3;
    static final int NONE = -9;

    /** How often the rarer events of a collection came about: a random test without them is weak. */
    final Map<String, Integer> events = new TreeMap<>();

    private World now = new World();
    private final Deque<World> saved = new ArrayDeque<>();
    private final World[] snapshots = new World[2];

    private static final class Thing {
        int kind;
        boolean finalizable;
        Integer target;
        final Integer[] fields = new Integer[3];
        final LinkedHashMap<Integer, Integer> entries = new LinkedHashMap<>();

        Thing copy() {
            Thing copy = new Thing();
            copy.kind = kind;
            copy.finalizable = finalizable;
            copy.target = target;
            System.arraycopy(fields, 0, copy.fields, 0, 3);
            copy.entries.putAll(entries);
            return copy;
        }
    }

    private static final class World {
        final TreeMap<Integer, Thing> things = new TreeMap<>();
        final Integer[] roots = new Integer[6];
        final List<Integer> notices = new ArrayList<>();
        int rounds;

        World copy() {
            World copy = new World();
            things.forEach((id, thing) -> copy.things.put(id, thing.copy()));
            System.arraycopy(roots, 0, copy.roots, 0, 6);
            copy.notices.addAll(notices);
            copy.rounds = rounds;
            return copy;
        }

        Set<Integer> rootObjects() {
            Set<Integer> set = new TreeSet<>();
            for (Integer root : roots) {
                if (root != null) {
                    set.add(root);
                }
            }
            return set;
        }

        /** The number of every mark; without, if not null, cannot be marked. */
        Map<Integer, Integer> mark(Set<Integer> start, Integer without) {
            Map<Integer, Integer> marks = new TreeMap<>();
            for (int object : start) {
                visit(object, 0, marks, without);
            }
            for (int round = 1; ; round++) {
                List<Integer> values = new ArrayList<>();
                for (int id : marks.keySet()) {
                    things.get(id).entries.forEach((key, value) -> {
                        if (marks.containsKey(key) && !marks.containsKey(value)) {
                            values.add(value);
                        }
                    });
                }
                int before = marks.size();
                for (int value : values) {
                    visit(value, round, marks, without);
                }
                if (marks.size() == before) {
                    return marks;
                }
            }
        }

        private void visit(int object, int round, Map<Integer, Integer> marks, Integer without) {
            if (marks.containsKey(object) || (without != null && without == object)) {
                return;
            }
            marks.put(object, round);
            for (Integer field : things.get(object).fields) {
                if (field != null) {
                    visit(field, round, marks, without);
                }
            }
        }

        void issue(int notice, Map<String, Integer> events) {
            if (notices.size() == 20) {
                notices.remove(0);
                events.merge("dropped notice", 1, Integer::sum);
            }
            notices.add(notice);
            events.merge("notice " + notice / 1000, 1, Integer::sum);
        }

        int collect(Map<String, Integer> events) {
            Map<Integer, Integer> marks = mark(rootObjects(), null);
            rounds = marks.values().stream().mapToInt(n -> n).max().orElse(0);
            events.merge("rounds " + Math.min(rounds, 4), 1, Integer::sum);
            for (int id : things.keySet()) {
                Thing thing = things.get(id);
                if (marks.containsKey(id) && thing.target != null && !marks.containsKey(thing.target)) {
                    thing.target = null;
                    issue(1000 + id, events);
                }
            }
            Set<Integer> start = rootObjects();
            for (int id : things.keySet()) {
                Thing thing = things.get(id);
                if (thing.finalizable && !marks.containsKey(id)) {
                    issue(3000 + id, events);
                    thing.finalizable = false;
                    start.add(id);
                }
            }
            marks = mark(start, null);
            for (int id : marks.keySet()) {
                Thing thing = things.get(id);
                for (int key : new ArrayList<>(thing.entries.keySet())) {
                    if (!marks.containsKey(key)) {
                        thing.entries.remove(key);
                        issue(2000 + 32 * id + key, events);
                    }
                }
            }
            for (int id : marks.keySet()) {
                Thing thing = things.get(id);
                if (thing.target != null && !marks.containsKey(thing.target)) {
                    thing.target = null;
                    events.merge("emptied silently", 1, Integer::sum);
                }
            }
            int before = things.size();
            things.keySet().retainAll(marks.keySet());
            return before - things.size();
        }
    }

    private Thing thing(int id, int kind) {
        Thing thing = now.things.get(id);
        return thing != null && thing.kind == kind ? thing : null;
    }

    private void keep() {
        saved.addLast(now.copy());
        if (saved.size() > 6) {
            saved.removeFirst();
        }
    }

    private static int told(Integer content) {
        return content == null ? NONE : content;
    }

    private Map<Integer, Integer> marks() {
        return now.mark(now.rootObjects(), null);
    }

    private int make(int kind, Integer target) {
        if (now.things.size() == 24) {
            events.merge("full heap", 1, Integer::sum);
            return FULL;
        }
        keep();
        int id = 0;
        while (now.things.containsKey(id)) {
            id++;
        }
        Thing thing = new Thing();
        thing.kind = kind;
        thing.target = target;
        now.things.put(id, thing);
        return id;
    }

    int allocate() {
        return make(0, null);
    }

    int allocateTable() {
        return make(1, null);
    }

    int allocateWeak(int target) {
        return now.things.containsKey(target) ? make(2, target) : INVALID;
    }

    int kind(int object) {
        return now.things.containsKey(object) ? now.things.get(object).kind : NONE;
    }

    int setField(int object, int field, int target) {
        Thing thing = thing(object, 0);
        if (thing == null || field < 0 || field > 2
                || (target != NONE && !now.things.containsKey(target))) {
            return INVALID;
        }
        int previous = told(thing.fields[field]);
        if (previous == target) {
            return ILLEGAL;
        }
        keep();
        thing.fields[field] = target == NONE ? null : target;
        return previous;
    }

    int field(int object, int field) {
        Thing thing = thing(object, 0);
        return thing == null || field < 0 || field > 2 ? INVALID : told(thing.fields[field]);
    }

    int setRoot(int root, int target) {
        if (root < 0 || root > 5 || (target != NONE && !now.things.containsKey(target))) {
            return INVALID;
        }
        int previous = told(now.roots[root]);
        if (previous == target) {
            return ILLEGAL;
        }
        keep();
        now.roots[root] = target == NONE ? null : target;
        return previous;
    }

    int root(int root) {
        return root < 0 || root > 5 ? INVALID : told(now.roots[root]);
    }

    int target(int reference) {
        Thing thing = thing(reference, 2);
        return thing == null ? INVALID : told(thing.target);
    }

    int setFinalizable(int object, int on) {
        Thing thing = now.things.get(object);
        if (thing == null || on < 0 || on > 1) {
            return INVALID;
        }
        if (thing.finalizable == (on == 1)) {
            return ILLEGAL;
        }
        keep();
        thing.finalizable = on == 1;
        return (int) now.things.values().stream().filter(each -> each.finalizable).count();
    }

    int put(int table, int key, int value) {
        Thing thing = thing(table, 1);
        if (thing == null || !now.things.containsKey(key) || !now.things.containsKey(value)) {
            return INVALID;
        }
        if (!thing.entries.containsKey(key) && thing.entries.size() == 6) {
            events.merge("full table", 1, Integer::sum);
            return FULL;
        }
        keep();
        return told(thing.entries.put(key, value));
    }

    int get(int table, int key) {
        Thing thing = thing(table, 1);
        return thing == null || !now.things.containsKey(key) ? INVALID : told(thing.entries.get(key));
    }

    int removeEntry(int table, int key) {
        Thing thing = thing(table, 1);
        if (thing == null || !now.things.containsKey(key)) {
            return INVALID;
        }
        if (!thing.entries.containsKey(key)) {
            return ILLEGAL;
        }
        keep();
        return thing.entries.remove(key);
    }

    int entryCount(int table) {
        Thing thing = thing(table, 1);
        return thing == null ? INVALID : thing.entries.size();
    }

    int entryKey(int table, int index) {
        Thing thing = thing(table, 1);
        if (thing == null || index < 0) {
            return INVALID;
        }
        List<Integer> keys = new ArrayList<>(thing.entries.keySet());
        return index < keys.size() ? keys.get(index) : NONE;
    }

    int collect() {
        keep();
        return now.collect(events);
    }

    int lastRounds() {
        return now.rounds;
    }

    int pollNotice() {
        if (now.notices.isEmpty()) {
            return ILLEGAL;
        }
        keep();
        return now.notices.remove(0);
    }

    int noticeCount() {
        return now.notices.size();
    }

    int objectCount() {
        return now.things.size();
    }

    int reachableCount() {
        return marks().size();
    }

    int markRound(int object) {
        return now.things.containsKey(object) ? told(marks().get(object)) : INVALID;
    }

    int wouldFree() {
        return now.copy().collect(new TreeMap<>());
    }

    int retainedSize(int object) {
        if (!now.things.containsKey(object)) {
            return INVALID;
        }
        Set<Integer> lost = new TreeSet<>(marks().keySet());
        lost.removeAll(now.mark(now.rootObjects(), object).keySet());
        return lost.size();
    }

    int waitingEntries(int key) {
        if (!now.things.containsKey(key)) {
            return INVALID;
        }
        Set<Integer> reachable = marks().keySet();
        if (reachable.contains(key)) {
            return 0;
        }
        return (int) reachable.stream().filter(id -> now.things.get(id).entries.containsKey(key)).count();
    }

    int referenceCount(int object) {
        if (!now.things.containsKey(object)) {
            return INVALID;
        }
        List<Integer> all = new ArrayList<>();
        all.addAll(Arrays.asList(now.roots));
        for (Thing thing : now.things.values()) {
            all.addAll(Arrays.asList(thing.fields));
            all.addAll(thing.entries.keySet());
            all.addAll(thing.entries.values());
            all.add(thing.target);
        }
        return Collections.frequency(all, object);
    }

    int undo() {
        if (saved.isEmpty()) {
            return ILLEGAL;
        }
        now = saved.removeLast();
        return saved.size();
    }

    int undoDepth() {
        return saved.size();
    }

    int save(int slot) {
        if (slot < 0 || slot > 1) {
            return INVALID;
        }
        snapshots[slot] = now.copy();
        return now.things.size();
    }

    int restore(int slot) {
        if (slot < 0 || slot > 1) {
            return INVALID;
        }
        if (snapshots[slot] == null) {
            return ILLEGAL;
        }
        now = snapshots[slot].copy();
        saved.clear();
        return now.things.size();
    }
}
