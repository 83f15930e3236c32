import java.util.ArrayList;
import java.util.List;

/**
 * Runs of calls in the form of the document's examples, "allocate() = 0; setRoot(0, 0) = -9", each
 * run on a new heap. Prints every call whose answer is not the one that is due.
 */
final class Script {
    /** What later calls answer is free, so that no run may ask for it. */
    private static final int CALLS_OF_A_RUN = 512;

    private int calls;
    private int wrong;

    void run(String title, String... lines) {
        List<Call> run = Call.allOf(lines);
        if (run.size() > CALLS_OF_A_RUN) {
            tell(title + ": the run has " + run.size() + " calls");
        }
        WeakTableHeap heap = new WeakTableHeap();
        for (Call call : run) {
            check(heap, title, call);
        }
        checkTraces(title, run);
    }

    /** Two runs by turns, each on a heap of its own. */
    void runApart(String title, String firstLine, String secondLine) {
        List<Call> first = Call.allOf(firstLine);
        List<Call> second = Call.allOf(secondLine);
        WeakTableHeap firstHeap = new WeakTableHeap();
        WeakTableHeap secondHeap = new WeakTableHeap();
        for (int i = 0; i < Math.max(first.size(), second.size()); i++) {
            if (i < first.size()) {
                check(firstHeap, title, first.get(i));
            }
            if (i < second.size()) {
                check(secondHeap, title, second.get(i));
            }
        }
    }

    void tell(String fault) {
        wrong++;
        System.out.println(fault);
    }

    void end() {
        System.out.println(calls + " calls, " + wrong + " answered wrongly");
        if (wrong != 0 || calls == 0) {
            System.exit(1);
        }
    }

    private void check(WeakTableHeap heap, String title, Call call) {
        String answer = call.answer(heap);
        calls++;
        if (!answer.equals(call.due)) {
            tell(title + ": " + call.row + " is due, the answer was " + answer);
        }
    }

    /** A run must end as it does without the calls that change nothing, the hidden states too. */
    private void checkTraces(String title, List<Call> run) {
        List<Call> changing = new ArrayList<>(run);
        changing.removeIf(Call::changesNothing);
        if (changing.size() < run.size() && !Trace.of(run).equals(Trace.of(changing))) {
            tell(title + ": a refused call or a query left a trace");
        }
    }
}
