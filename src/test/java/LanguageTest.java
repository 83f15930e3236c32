import java.io.IOException;
import java.nio.file.Files;
import java.nio.file.Path;
import java.util.ArrayList;
import java.util.List;
import java.util.regex.Matcher;
import java.util.regex.Pattern;

/**
 * Those rules of LANGUAGE.md that can be read off the text of the class: words that it does not
 * use, what it imports and the library's functions that it calls, no name of the face twice, how
 * long methods are, how many parameters they take and how many classes there are.
 */
public final class LanguageTest {
    private static final Path SOURCE = Path.of("src/main/java/WeakTableHeap.java");
    private static final String[] FORBIDDEN = {
        "\\bthrow\\b", "\\bthrows\\b", "\\btry\\b", "\\bcatch\\b", "\\bsynchronized\\b", "\\bassert\\b",
        "->", "::", "\\bstatic\\s*\\{", "\\bvolatile\\b", "\\bprotected\\b", "\\bpackage\\b",
        "\\bequals\\b", "\\bhashCode\\b", "\\btoString\\b", "\\bThread\\b", "\\bdouble\\b", "\\bfloat\\b"
    };
    private static final String ALLOWED_LIBRARY =
            "System\\.arraycopy|Arrays\\.fill|Integer\\.bitCount|Math\\.(min|max)";
    private static final int LINES_OF_A_METHOD = 60;
    private static final int PARAMETERS = 7;
    private static final int CLASSES = 12;

    private int wrong;

    public static void main(String[] args) throws IOException {
        new LanguageTest().testAll();
    }

    private void testAll() throws IOException {
        String code = withoutComments(Files.readString(SOURCE));
        for (String word : FORBIDDEN) {
            for (String found : findAll(word, code)) {
                tell("the class uses " + found);
            }
        }
        for (String line : findAll("(?m)^import.*$", code)) {
            if (!line.equals("import java.util.Arrays;")) {
                tell("the class has: " + line);
            }
        }
        for (String call : findAll("\\b(System|Arrays|Integer|Math|Long|String)\\.\\w+", code)) {
            if (!call.matches(ALLOWED_LIBRARY)) {
                tell("the class calls " + call);
            }
        }
        testNames(code);
        testSizes(code);
        System.out.println(SOURCE + ": " + wrong + " rules broken");
        if (wrong != 0) {
            System.exit(1);
        }
    }

    private void testNames(String code) {
        List<String> declared = declaredMethods(code);
        for (String name : findAll("(?<=public int )\\w+(?=\\()", code)) {
            if (declared.indexOf(name) != declared.lastIndexOf(name)) {
                tell(name + " is declared more than once");
            }
        }
    }

    private void testSizes(String code) {
        List<String> methods = findAll("(?ms)^( +)\\w[^\n;=]*\\([^()]*\\) \\{$.*?^\\1\\}$", code);
        if (methods.size() < declaredMethods(code).size()) {
            tell("only " + methods.size() + " methods were found");
        }
        for (String method : methods) {
            String head = method.substring(0, method.indexOf('{')).trim();
            if (method.lines().count() > LINES_OF_A_METHOD) {
                tell(head + " is too long");
            }
            if (head.split(",").length > PARAMETERS) {
                tell(head + " has too many parameters");
            }
        }
        if (findAll("\\b(class|record|enum|interface) \\w+", code).size() > CLASSES) {
            tell("the file has too many classes");
        }
    }

    private static List<String> declaredMethods(String code) {
        return findAll("(?m)(?<=(int|void|boolean|int\\[\\]) )\\w+(?=\\([^()]*\\) \\{$)", code);
    }

    private void tell(String text) {
        wrong++;
        System.out.println(text);
    }

    private static String withoutComments(String text) {
        return text.replaceAll("(?s)/\\*.*?\\*/", "").replaceAll("//[^\n]*", "");
    }

    private static List<String> findAll(String pattern, String text) {
        List<String> found = new ArrayList<>();
        Matcher matcher = Pattern.compile(pattern).matcher(text);
        while (matcher.find()) {
            found.add(matcher.group());
        }
        return found;
    }
}
