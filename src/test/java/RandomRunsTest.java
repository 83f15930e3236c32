import java.lang.reflect.InvocationTargetException;
import java.lang.reflect.Method;
import java.lang.reflect.Modifier;
import java.util.ArrayList;
import java.util.Arrays;
import java.util.Comparator;
import java.util.List;
import java.util.Map;
import java.util.Random;
import java.util.TreeMap;

/**
 * Random runs of 512 calls, each call made on a WeakTableHeap and on a NaiveHeap: the answers must
 * be the same. Every promise of the document takes part, wrong arguments too.
 */
public final class RandomRunsTest {
    private static final int RUNS = 1500;
    private static final int CALLS = 512;
    private static final int OBSERVE_EVERY = 64;
    private static final String[] CHANGING = {
        "allocate", "allocateTable", "allocateWeak", "setField", "setRoot", "setFinalizable", "put",
        "removeEntry", "collect", "pollNotice", "undo", "save", "restore"
    };
    /** For each kind of run, how often each of the calls above is made. */
    private static final int[][] WEIGHTS = {
        {6, 6, 4, 14, 8, 4, 20, 3, 2, 2, 3, 1, 1},
        {3, 9, 1, 4, 3, 2, 50, 2, 1, 1, 1, 1, 1},
        {8, 3, 9, 20, 6, 16, 8, 1, 9, 3, 2, 1, 1},
        {9, 6, 3, 12, 9, 3, 16, 3, 0, 1, 1, 0, 0},
        {4, 4, 4, 6, 6, 4, 8, 4, 4, 6, 12, 4, 4},
        {3, 2, 1, 12, 4, 2, 30, 5, 3, 0, 0, 0, 0},
    };
    private static final int[] ODD_ARGUMENTS = {-1, -2, -8, -9, -10, 2, 3, 6, 7, 23, 24, 25, 31, 32,
        1 << 30, Integer.MAX_VALUE, Integer.MIN_VALUE, Integer.MIN_VALUE + 1, -(1 << 29)};
    private static final List<String> EVENTS = List.of("dropped notice", "emptied silently",
            "full heap", "full table", "notice 1", "notice 2", "notice 3", "rounds 0", "rounds 1",
            "rounds 2", "rounds 3", "rounds 4");

    private final Map<String, Method> real = new TreeMap<>();
    private final Map<String, Method> due = new TreeMap<>();
    private final List<String> queries = new ArrayList<>();
    private final Map<String, Integer> events = new TreeMap<>();
    private long calls;
    private int wrong;

    public static void main(String[] args) throws ReflectiveOperationException {
        new RandomRunsTest().testAll();
    }

    private RandomRunsTest() throws ReflectiveOperationException {
        Method[] methods = WeakTableHeap.class.getDeclaredMethods();
        Arrays.sort(methods, Comparator.comparing(Method::getName));
        for (Method method : methods) {
            if (Modifier.isPublic(method.getModifiers())) {
                String name = method.getName();
                real.put(name, method);
                due.put(name, NaiveHeap.class.getDeclaredMethod(name, method.getParameterTypes()));
                if (!Arrays.asList(CHANGING).contains(name)) {
                    queries.add(name);
                }
            }
        }
    }

    private void testAll() throws ReflectiveOperationException {
        for (int run = 0; run < RUNS && wrong < 10; run++) {
            testOne(run);
        }
        for (String event : EVENTS) {
            if (!events.containsKey(event)) {
                wrong++;
                System.out.println("the runs never came to: " + event);
            }
        }
        System.out.println(calls + " calls in random runs, " + wrong + " wrong; events " + events);
        if (wrong != 0) {
            System.exit(1);
        }
    }

    private void testOne(int run) throws ReflectiveOperationException {
        Random random = new Random(run);
        int[] weights = WEIGHTS[run % WEIGHTS.length];
        WeakTableHeap heap = new WeakTableHeap();
        NaiveHeap model = new NaiveHeap();
        List<String> told = new ArrayList<>();
        boolean same = true;
        for (int i = 0; i < CALLS && same; i++) {
            String name = random.nextInt(4) == 0
                    ? queries.get(random.nextInt(queries.size())) : CHANGING[pick(weights, random)];
            same = agree(heap, model, name, arguments(name, random, model), told);
            if (same && i % OBSERVE_EVERY == OBSERVE_EVERY - 1) {
                same = observe(heap, model, told);
            }
        }
        model.events.forEach((event, count) -> events.merge(event, count, Integer::sum));
        if (!same) {
            wrong++;
            System.out.println("run " + run + " went wrong: " + String.join("; ", told));
        }
    }

    private static int pick(int[] weights, Random random) {
        int left = random.nextInt(Arrays.stream(weights).sum());
        int index = 0;
        while (left >= weights[index]) {
            left -= weights[index];
            index++;
        }
        return index;
    }

    private Object[] arguments(String name, Random random, NaiveHeap model) {
        Object[] values = new Object[real.get(name).getParameterCount()];
        for (int i = 0; i < values.length; i++) {
            values[i] = argument(name, i, random, model);
        }
        return values;
    }

    private static int argument(String name, int position, Random random, NaiveHeap model) {
        if (random.nextInt(60) == 0) {
            return ODD_ARGUMENTS[random.nextInt(ODD_ARGUMENTS.length)];
        }
        if (position == 0 && (name.equals("save") || name.equals("restore"))) {
            return random.nextInt(2);
        }
        if (position == 0 && name.toLowerCase().endsWith("root")) {
            return random.nextInt(6);
        }
        if (position == 1 && name.toLowerCase().endsWith("field")) {
            return random.nextInt(3);
        }
        if (position == 1 && name.equals("setFinalizable")) {
            return random.nextInt(4) == 0 ? 0 : 1;
        }
        if (position == 1 && name.equals("entryKey")) {
            return random.nextInt(7);
        }
        if (position > 0 && name.startsWith("set") && random.nextInt(6) == 0) {
            return -9;
        }
        return objectFor(name, position, random, model);
    }

    /** Mostly an object of the kind that the call wants, so that runs do not consist of errors. */
    private static int objectFor(String name, int position, Random random, NaiveHeap model) {
        int kind = -1;
        if (position == 0) {
            kind = name.equals("setField") || name.equals("field") ? 0
                    : name.equals("target") ? 2
                    : List.of("put", "get", "removeEntry", "entryCount", "entryKey").contains(name) ? 1 : -1;
        }
        int range = Math.min(24, Math.max(4, model.objectCount() + 1));
        int object = random.nextInt(range);
        for (int turn = 0; turn < 24; turn++) {
            int answer = model.kind((object + turn) % range);
            if (answer == kind || (kind == -1 && answer != -9)) {
                return (object + turn) % range;
            }
        }
        return object;
    }

    /** All that can be asked without a change, for all objects. */
    private boolean observe(WeakTableHeap heap, NaiveHeap model, List<String> told)
            throws ReflectiveOperationException {
        for (String name : queries) {
            int parameters = real.get(name).getParameterCount();
            for (int first = -1; first < (parameters < 1 ? 0 : 25); first++) {
                for (int second = -1; second < (parameters < 2 ? 0 : 25); second++) {
                    Object[] values = Arrays.copyOf(new Object[] {first, second}, parameters);
                    if (!agree(heap, model, name, values, null)) {
                        return agree(heap, model, name, values, told);
                    }
                }
            }
        }
        return true;
    }

    private boolean agree(WeakTableHeap heap, NaiveHeap model, String name, Object[] values,
            List<String> told) throws ReflectiveOperationException {
        String wanted = due.get(name).invoke(model, values).toString();
        String got;
        try {
            got = real.get(name).invoke(heap, values).toString();
        } catch (InvocationTargetException thrown) {
            got = thrown.getCause().toString();
        }
        calls++;
        boolean same = got.equals(wanted);
        if (told != null) {
            String list = Arrays.toString(values);
            told.add(name + "(" + list.substring(1, list.length() - 1) + ") = " + got
                    + (same ? "" : " where " + wanted + " is due"));
        }
        return same;
    }
}
