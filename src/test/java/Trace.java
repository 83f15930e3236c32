import java.util.List;

/**
 * All that a run of calls can have left behind: what can be asked, the notices and the finalizable
 * objects, in the state itself, in each state that undo brings back and in both snapshots. Looking
 * takes more calls than the document promises answers for; the class has no limit of its own.
 */
final class Trace {
    private static final int OBJECTS = 24;
    private static final int DEEPEST_UNDO = 7;

    private Trace() {
    }

    static String of(List<Call> calls) {
        StringBuilder text = new StringBuilder();
        for (int undone = 0; undone <= DEEPEST_UNDO; undone++) {
            WeakTableHeap heap = after(calls);
            text.append("\nafter undo ").append(undone).append(" times:");
            for (int i = 0; i < undone; i++) {
                text.append(' ').append(heap.undo());
            }
            describe(heap, text);
        }
        for (int slot = 0; slot < 2; slot++) {
            WeakTableHeap heap = after(calls);
            text.append("\nafter restore ").append(slot).append(": ").append(heap.restore(slot));
            describe(heap, text);
        }
        return text.toString();
    }

    private static WeakTableHeap after(List<Call> calls) {
        WeakTableHeap heap = new WeakTableHeap();
        for (Call call : calls) {
            call.answer(heap);
        }
        return heap;
    }

    private static void describe(WeakTableHeap heap, StringBuilder text) {
        for (int root = 0; root < 6; root++) {
            text.append(" root ").append(heap.root(root));
        }
        for (int object = 0; object < OBJECTS; object++) {
            describeObject(heap, object, text);
        }
        text.append(" counts ").append(heap.objectCount()).append(' ').append(heap.reachableCount())
                .append(' ').append(heap.wouldFree()).append(' ').append(heap.lastRounds())
                .append(' ').append(heap.noticeCount()).append(' ').append(heap.undoDepth());
        describeByChanging(heap, text);
    }

    private static void describeObject(WeakTableHeap heap, int object, StringBuilder text) {
        text.append("\n  ").append(object).append(" is ").append(heap.kind(object))
                .append(", target ").append(heap.target(object))
                .append(", marked ").append(heap.markRound(object))
                .append(", retains ").append(heap.retainedSize(object))
                .append(", awaited by ").append(heap.waitingEntries(object))
                .append(", referred to by ").append(heap.referenceCount(object))
                .append(", entries ").append(heap.entryCount(object)).append(", fields");
        for (int field = 0; field < 3; field++) {
            text.append(' ').append(heap.field(object, field));
        }
        for (int index = 0; index < 6; index++) {
            int key = heap.entryKey(object, index);
            text.append(" [").append(key).append(' ').append(heap.get(object, key)).append(']');
        }
    }

    /** Notices and finalizable objects are only seen by calls that change the heap. */
    private static void describeByChanging(WeakTableHeap heap, StringBuilder text) {
        text.append("\n  notices");
        for (int turn = 0; turn <= 20; turn++) {
            text.append(' ').append(heap.pollNotice());
        }
        text.append("\n  finalizable");
        for (int object = 0; object < OBJECTS; object++) {
            text.append(' ').append(heap.setFinalizable(object, 1));
        }
    }
}
