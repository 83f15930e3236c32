import java.io.IOException;
import java.lang.reflect.Method;
import java.lang.reflect.Modifier;
import java.nio.file.Files;
import java.nio.file.Path;
import java.util.ArrayList;
import java.util.HashMap;
import java.util.List;
import java.util.Map;
import java.util.Set;
import java.util.TreeSet;
import java.util.regex.Matcher;
import java.util.regex.Pattern;
import java.util.stream.Collectors;
import java.util.stream.Stream;

/** README.md tells the truth: its example's answers, its list of calls and its list of tests. */
public final class ReadmeTest {
    private static final Pattern EXAMPLE_ROW =
            Pattern.compile("(?:int (\\w+) = )?heap\\.(\\w+)\\(([^)]*)\\); *// (-?\\d+).*");

    private final Script script = new Script();
    private final String page;

    public static void main(String[] args) throws IOException {
        new ReadmeTest(Files.readString(Path.of("README.md"))).testAll();
    }

    private ReadmeTest(String page) {
        this.page = page;
    }

    private void testAll() throws IOException {
        script.run("the example of README.md", exampleCalls());
        compare("the call ", callsOfTheClass(), firstCells("\\w+\\([^)]*\\)"));
        compare("the test ", testsOfTheProject(), firstCells("\\w+Test"));
        script.end();
    }

    /** The example in the form that Script reads: each variable is the answer it was given. */
    private String exampleCalls() {
        Map<String, String> variables = new HashMap<>();
        List<String> calls = new ArrayList<>();
        String example = page.substring(page.indexOf("```java\n") + 8);
        example = example.substring(0, example.indexOf("```"));
        for (String line : example.lines().skip(1).toList()) {
            Matcher row = EXAMPLE_ROW.matcher(line);
            if (row.matches()) {
                String values = Stream.of(row.group(3).split(", "))
                        .map(word -> variables.getOrDefault(word, word)).collect(Collectors.joining(", "));
                calls.add(row.group(2) + "(" + values + ") = " + row.group(4));
                if (row.group(1) != null) {
                    variables.put(row.group(1), row.group(4));
                }
            } else {
                script.tell("README.md has a row without a call and its answer: " + line);
            }
        }
        return String.join(";", calls);
    }

    private void compare(String what, Set<String> wanted, Set<String> found) {
        for (String name : wanted) {
            if (!found.contains(name)) {
                script.tell("README.md does not list " + what + name);
            }
        }
        for (String name : found) {
            if (!wanted.contains(name)) {
                script.tell("README.md lists " + what + name + ", which is not there");
            }
        }
    }

    /** The first cells of tables that have the form, calls with their number of arguments. */
    private Set<String> firstCells(String form) {
        Set<String> cells = new TreeSet<>();
        Matcher cell = Pattern.compile("(?m)^\\| `(" + form + ")` \\|").matcher(page);
        while (cell.find()) {
            cells.add(cell.group(1).replaceAll("\\w+(?=[,)])", "int"));
        }
        return cells;
    }

    private static Set<String> callsOfTheClass() {
        Set<String> calls = new TreeSet<>();
        for (Method method : WeakTableHeap.class.getDeclaredMethods()) {
            if (Modifier.isPublic(method.getModifiers())) {
                calls.add(method.getName() + Stream.of(method.getParameterTypes()).map(Class::getName)
                        .collect(Collectors.joining(", ", "(", ")")));
            }
        }
        return calls;
    }

    private static Set<String> testsOfTheProject() throws IOException {
        try (Stream<Path> files = Files.list(Path.of("src/test/java"))) {
            return files.map(file -> file.getFileName().toString()).filter(name -> name.endsWith("Test.java"))
                    .map(name -> name.replace(".java", "")).collect(Collectors.toCollection(TreeSet::new));
        }
    }
}
