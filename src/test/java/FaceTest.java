import java.lang.reflect.Constructor;
import java.lang.reflect.Field;
import java.lang.reflect.Member;
import java.lang.reflect.Method;
import java.lang.reflect.Modifier;
import java.util.Arrays;
import java.util.Set;
import java.util.TreeSet;

/** The class shows the document's face and nothing else; the constants have their values. */
public final class FaceTest {
    private static final Set<String> FACE = new TreeSet<>(Set.of(
            "INVALID_ARGUMENT = -1", "ILLEGAL_STATE = -2", "CAPACITY_EXCEEDED = -3", "NONE = -9",
            "WeakTableHeap/0", "allocate/0", "allocateTable/0", "allocateWeak/1", "kind/1",
            "setField/3", "field/2", "setRoot/2", "root/1", "target/1", "setFinalizable/2", "put/3",
            "get/2", "removeEntry/2", "entryCount/1", "entryKey/2", "collect/0", "lastRounds/0",
            "pollNotice/0", "noticeCount/0", "objectCount/0", "reachableCount/0", "markRound/1",
            "wouldFree/0", "retainedSize/1", "waitingEntries/1", "referenceCount/1", "undo/0",
            "undoDepth/0", "save/1", "restore/1"));

    public static void main(String[] args) throws ReflectiveOperationException {
        Set<String> shown = shownMembers();
        int wrong = missing("the document asks for ", FACE, shown)
                + missing("the document does not know ", shown, FACE);
        int modifiers = WeakTableHeap.class.getModifiers();
        if (!Modifier.isPublic(modifiers) || !Modifier.isFinal(modifiers)) {
            wrong++;
            System.out.println("the class is public and final");
        }
        System.out.println(FACE.size() + " members of the face, " + wrong + " wrong");
        if (wrong != 0) {
            System.exit(1);
        }
    }

    private static int missing(String text, Set<String> wanted, Set<String> found) {
        int count = 0;
        for (String member : wanted) {
            if (!found.contains(member)) {
                count++;
                System.out.println(text + member);
            }
        }
        return count;
    }

    private static Set<String> shownMembers() throws ReflectiveOperationException {
        Set<String> shown = new TreeSet<>();
        for (Field field : WeakTableHeap.class.getDeclaredFields()) {
            if (isShown(field)) {
                boolean constant = field.getType() == int.class
                        && Modifier.isStatic(field.getModifiers()) && Modifier.isFinal(field.getModifiers());
                shown.add(field.getName() + (constant ? " = " + field.getInt(null) : " is no constant"));
            }
        }
        for (Constructor<?> constructor : WeakTableHeap.class.getDeclaredConstructors()) {
            if (isShown(constructor)) {
                shown.add("WeakTableHeap/" + constructor.getParameterCount());
            }
        }
        for (Method method : WeakTableHeap.class.getDeclaredMethods()) {
            if (isShown(method)) {
                boolean ints = method.getReturnType() == int.class
                        && Arrays.stream(method.getParameterTypes()).allMatch(type -> type == int.class);
                shown.add(method.getName() + (ints ? "/" : " not of int alone/") + method.getParameterCount());
            }
        }
        return shown;
    }

    private static boolean isShown(Member member) {
        return !Modifier.isPrivate(member.getModifiers()) && !member.isSynthetic();
    }
}
