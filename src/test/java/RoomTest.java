import com.sun.management.ThreadMXBean;
import java.lang.management.ManagementFactory;

/** A heap makes its rows when it is new or first needs them; calls after that make nothing. */
public final class RoomTest {
    private static final int TURNS = 60;
    private static final long SLACK = 4096;

    public static void main(String[] args) {
        WeakTableHeap heap = new WeakTableHeap();
        for (int i = 0; i < 12; i++) {
            heap.allocateTable();
        }
        heap.save(0);
        heap.save(1);
        callAll(heap);
        ThreadMXBean threads = (ThreadMXBean) ManagementFactory.getThreadMXBean();
        long thread = Thread.currentThread().getId();
        threads.getThreadAllocatedBytes(thread);
        long before = threads.getThreadAllocatedBytes(thread);
        for (int turn = 0; turn < TURNS; turn++) {
            callAll(heap);
        }
        long made = threads.getThreadAllocatedBytes(thread) - before;
        System.out.println(made + " bytes made in " + TURNS + " turns of all calls");
        if (made > SLACK) {
            System.exit(1);
        }
    }

    private static void callAll(WeakTableHeap heap) {
        int plain = heap.allocate();
        int table = heap.allocateTable();
        int weak = heap.allocateWeak(plain);
        heap.setRoot(0, table);
        heap.setRoot(1, weak);
        heap.setField(plain, 0, plain);
        heap.put(table, table, plain);
        heap.put(table, plain, weak);
        heap.removeEntry(table, plain);
        heap.setFinalizable(plain, 1);
        heap.retainedSize(table);
        heap.waitingEntries(plain);
        heap.referenceCount(plain);
        heap.markRound(plain);
        heap.wouldFree();
        heap.collect();
        heap.pollNotice();
        heap.undo();
        heap.save(1);
        heap.restore(0);
    }
}
