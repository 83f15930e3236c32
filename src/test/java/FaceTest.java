import java.io.IOException;
import java.lang.reflect.Constructor;
import java.lang.reflect.Field;
import java.lang.reflect.Member;
import java.lang.reflect.Method;
import java.lang.reflect.Modifier;
import java.nio.file.Files;
import java.nio.file.Path;
import java.util.Arrays;
import java.util.Set;
import java.util.TreeSet;
import java.util.stream.Collectors;

/**
 * The class shows the document's face and nothing else; the constants have their values. The face
 * stands here once more and is compared with the document, so that a change there is seen.
 */
public final class FaceTest {
    private static final Path DOCUMENT = Path.of("../shared/DOC.md");
    private static final String FACE = """
            public final class WeakTableHeap {
                public static final int INVALID_ARGUMENT = -1;
                public static final int ILLEGAL_STATE = -2;
                public static final int CAPACITY_EXCEEDED = -3;
                public static final int NONE = -9;
                public WeakTableHeap();
                public int allocate();
                public int allocateTable();
                public int allocateWeak(int target);
                public int kind(int object);
                public int setField(int object, int field, int target);
                public int field(int object, int field);
                public int setRoot(int root, int target);
                public int root(int root);
                public int target(int reference);
                public int setFinalizable(int object, int on);
                public int put(int table, int key, int value);
                public int get(int table, int key);
                public int removeEntry(int table, int key);
                public int entryCount(int table);
                public int entryKey(int table, int index);
                public int collect();
                public int lastRounds();
                public int pollNotice();
                public int noticeCount();
                public int objectCount();
                public int reachableCount();
                public int markRound(int object);
                public int wouldFree();
                public int retainedSize(int object);
                public int waitingEntries(int key);
                public int referenceCount(int object);
                public int undo();
                public int undoDepth();
                public int save(int slot);
                public int restore(int slot);
            }
            """;

    public static void main(String[] args) throws IOException, ReflectiveOperationException {
        Set<String> wanted = wantedMembers();
        Set<String> shown = shownMembers();
        int wrong = missing("the document asks for ", wanted, shown)
                + missing("the document does not know ", shown, wanted);
        if (Files.exists(DOCUMENT) && !Files.readString(DOCUMENT).contains("```java\n" + FACE + "```")) {
            wrong++;
            System.out.println("the document has another face than this test");
        }
        System.out.println(wanted.size() + " lines of the face, " + wrong + " wrong");
        if (wrong != 0) {
            System.exit(1);
        }
    }

    private static int missing(String text, Set<String> wanted, Set<String> found) {
        int count = 0;
        for (String member : wanted) {
            if (!found.contains(member)) {
                count++;
                System.out.println(text + member);
            }
        }
        return count;
    }

    /** The lines of the face without the names of parameters, which the compiler does not keep. */
    private static Set<String> wantedMembers() {
        return FACE.lines().map(line -> line.replaceAll("int \\w+([,)])", "int$1").replaceAll("[;{}]", "").trim())
                .filter(line -> !line.isEmpty()).collect(Collectors.toCollection(TreeSet::new));
    }

    private static Set<String> shownMembers() throws ReflectiveOperationException {
        Set<String> shown = new TreeSet<>();
        shown.add(modifiers(WeakTableHeap.class.getModifiers()) + "class " + WeakTableHeap.class.getName());
        for (Field field : WeakTableHeap.class.getDeclaredFields()) {
            if (isShown(field)) {
                boolean constant = Modifier.isStatic(field.getModifiers());
                shown.add(modifiers(field.getModifiers()) + field.getType().getName() + " " + field.getName()
                        + " = " + (constant ? field.get(null) : "no constant"));
            }
        }
        for (Constructor<?> constructor : WeakTableHeap.class.getDeclaredConstructors()) {
            if (isShown(constructor)) {
                shown.add(modifiers(constructor.getModifiers()) + constructor.getName()
                        + types(constructor.getParameterTypes()));
            }
        }
        for (Method method : WeakTableHeap.class.getDeclaredMethods()) {
            if (isShown(method)) {
                shown.add(modifiers(method.getModifiers()) + method.getReturnType().getName() + " "
                        + method.getName() + types(method.getParameterTypes()));
            }
        }
        return shown;
    }

    private static String modifiers(int modifiers) {
        return modifiers == 0 ? "" : Modifier.toString(modifiers) + " ";
    }

    private static String types(Class<?>[] types) {
        return Arrays.stream(types).map(Class::getName).collect(Collectors.joining(", ", "(", ")"));
    }

    private static boolean isShown(Member member) {
        return !Modifier.isPrivate(member.getModifiers()) && !member.isSynthetic();
    }
}
