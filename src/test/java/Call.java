import java.lang.reflect.InvocationTargetException;
import java.lang.reflect.Method;
import java.util.ArrayList;
import java.util.List;
import java.util.Set;

/** One call with the answer that is due, read from a row such as "setRoot(0, 0) = -9". */
final class Call {
    private static final Set<String> QUERIES = Set.of("kind", "field", "root", "target", "get",
            "entryCount", "entryKey", "lastRounds", "noticeCount", "objectCount", "reachableCount",
            "markRound", "wouldFree", "retainedSize", "waitingEntries", "referenceCount",
            "undoDepth");

    final String row;
    final String due;
    private final Method method;
    private final Object[] values;

    private Call(String row) {
        this.row = row;
        String[] sides = row.split("\\) = ");
        String[] call = sides[0].split("\\(");
        String[] words = call.length < 2 ? new String[0] : call[1].split(",");
        due = Integer.toString(Integer.parseInt(sides[1].trim()));
        values = new Object[words.length];
        Class<?>[] types = new Class<?>[words.length];
        for (int i = 0; i < words.length; i++) {
            values[i] = Integer.parseInt(words[i].trim());
            types[i] = int.class;
        }
        method = methodOf(call[0], types);
    }

    private static Method methodOf(String name, Class<?>[] types) {
        try {
            return WeakTableHeap.class.getMethod(name, types);
        } catch (NoSuchMethodException missing) {
            throw new IllegalArgumentException(missing);
        }
    }

    static List<Call> allOf(String... lines) {
        List<Call> calls = new ArrayList<>();
        for (String line : lines) {
            for (String row : line.split(";")) {
                if (!row.isBlank()) {
                    calls.add(new Call(row.trim()));
                }
            }
        }
        return calls;
    }

    String answer(WeakTableHeap heap) {
        try {
            return method.invoke(heap, values).toString();
        } catch (InvocationTargetException thrown) {
            return thrown.getCause().toString();
        } catch (IllegalAccessException hidden) {
            return hidden.toString();
        }
    }

    /** Whether the document says that the call changes nothing: a query, or an error is due. */
    boolean changesNothing() {
        return QUERIES.contains(method.getName()) || Set.of("-1", "-2", "-3").contains(due);
    }
}
