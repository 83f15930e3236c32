import java.lang.reflect.InvocationTargetException;
import java.lang.reflect.Method;

/**
 * Runs of calls in the form of the document's examples, "allocate() = 0; setRoot(0, 0) = -9", each
 * run on a new heap. Prints every call whose answer is not the one that is due.
 */
final class Script {
    private int calls;
    private int wrong;

    void run(String title, String... lines) {
        WeakTableHeap heap = new WeakTableHeap();
        for (String line : lines) {
            for (String row : line.split(";")) {
                if (!row.isBlank()) {
                    check(heap, title, row.trim());
                }
            }
        }
    }

    void end() {
        System.out.println(calls + " calls, " + wrong + " answered wrongly");
        if (wrong != 0 || calls == 0) {
            System.exit(1);
        }
    }

    private void check(WeakTableHeap heap, String title, String row) {
        String[] sides = row.split("\\) = ");
        String[] call = sides[0].split("\\(");
        int due = Integer.parseInt(sides[1].trim());
        String answer = answer(heap, call[0], call.length < 2 ? "" : call[1]);
        calls++;
        if (!answer.equals(Integer.toString(due))) {
            wrong++;
            System.out.println(title + ": " + row + " is due, the answer was " + answer);
        }
    }

    private static String answer(WeakTableHeap heap, String name, String list) {
        String[] words = list.isBlank() ? new String[0] : list.split(",");
        Object[] values = new Object[words.length];
        Class<?>[] types = new Class<?>[words.length];
        for (int i = 0; i < words.length; i++) {
            values[i] = Integer.parseInt(words[i].trim());
            types[i] = int.class;
        }
        try {
            Method method = WeakTableHeap.class.getMethod(name, types);
            return method.invoke(heap, values).toString();
        } catch (InvocationTargetException thrown) {
            return thrown.getCause().toString();
        } catch (ReflectiveOperationException missing) {
            return missing.toString();
        }
    }
}
