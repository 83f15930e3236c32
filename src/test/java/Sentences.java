import java.io.IOException;
import java.nio.file.Files;
import java.nio.file.Path;
import java.util.ArrayList;
import java.util.BitSet;
import java.util.List;

/**
 * Tests that quote the sentence of the document, or the part of one, that they hold the class to.
 * Every quote must stand in its section, and at the end all of a section must have been quoted.
 */
final class Sentences {
    private static final Path DOCUMENT = Path.of("../shared/DOC.md");

    private final Script script = new Script();
    private final List<String> document;
    private String heading = "";
    private String section = "";
    private BitSet quoted = new BitSet();

    Sentences() throws IOException {
        // The tests hold without the document; only that they leave nothing out is not seen then.
        document = Files.exists(DOCUMENT) ? Files.readAllLines(DOCUMENT) : List.of();
        if (document.isEmpty()) {
            System.out.println(DOCUMENT + " is not there, the quotes are not compared with it");
        }
    }

    void section(String title) {
        endSection();
        heading = title;
        section = textOfSection();
        quoted = new BitSet();
    }

    /** A test of its own for a sentence. */
    void holds(String sentence, String... lines) {
        quote(sentence);
        script.run(heading + ": " + sentence, lines);
    }

    /** As holds, by two heaps that are used by turns. */
    void holdsApart(String sentence, String firstLine, String secondLine) {
        quote(sentence);
        script.runApart(heading + ": " + sentence, firstLine, secondLine);
    }

    /** A sentence that only leads to others, so that it needs no test. */
    void leadsOn(String sentence) {
        quote(sentence);
    }

    void end() {
        endSection();
        script.end();
    }

    private void quote(String sentence) {
        int place = section.indexOf(sentence);
        if (place < 0 && !document.isEmpty()) {
            script.tell(heading + ": the document does not say: " + sentence);
        }
        while (place >= 0) {
            quoted.set(place, place + sentence.length());
            place = section.indexOf(sentence, place + 1);
        }
    }

    private void endSection() {
        StringBuilder rest = new StringBuilder();
        for (int i = 0; i < section.length(); i++) {
            rest.append(quoted.get(i) ? '|' : section.charAt(i));
        }
        for (String piece : rest.toString().split("\\|+")) {
            if (!piece.matches("(\\W|\\bor\\b|\\bif\\b|\\band\\b)*")) {
                script.tell(heading + ": no test for: " + piece.trim());
            }
        }
    }

    /** Without signatures, the names of parameters, the numbers of steps, and the examples. */
    private String textOfSection() {
        List<String> lines = new ArrayList<>();
        int start = document.indexOf("## " + heading);
        if (start < 0 && !document.isEmpty()) {
            script.tell("the document has no section " + heading);
        }
        for (int i = start + 1; start >= 0 && i < document.size(); i++) {
            String line = document.get(i);
            if (line.startsWith("## ") || line.startsWith("Examples:")) {
                break;
            }
            if (!line.startsWith("`") && !line.startsWith("----")) {
                lines.add(line.replaceFirst("^(- `\\w+`: |\\d\\. )", ""));
            }
        }
        return String.join("\n", lines);
    }
}
