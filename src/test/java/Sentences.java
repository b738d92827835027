import java.io.IOException;
import java.nio.file.Files;
import java.nio.file.Path;
import java.util.BitSet;
import java.util.LinkedHashMap;
import java.util.List;
import java.util.Map;

/**
 * Tests of the document's sentences. Each test quotes the words that it tests; at the end, no word of 'Terms' and of
 * the promises is left that no test has quoted.
 */
final class Sentences {
    private static final Path DOCUMENT = Path.of("..", "shared", "DOC.md");
    /** Such a line is about comments in the interface: FaceTest's matter. */
    private static final String COMMENT_LINE = "Ahead of the calls ";

    /** The words of a section, and which of its signs are quoted. */
    private static final class Section {
        private final StringBuilder words = new StringBuilder();
        private final BitSet quoted = new BitSet();
    }

    final Due due;
    private final Map<String, Section> sections = new LinkedHashMap<>();
    private String heading = "";

    Sentences(String test) throws IOException {
        due = new Due(test);
        readDocument(Files.readAllLines(DOCUMENT));
    }

    private void readDocument(List<String> lines) {
        Section current = null;
        for (String line : lines) {
            if (line.startsWith("## ")) {
                current = line.equals("## Terms") || line.startsWith("## Promise ") ? new Section() : null;
                if (current != null) {
                    sections.put(line.substring(3), current);
                }
            } else if (current != null && !line.startsWith(COMMENT_LINE)) {
                current.words.append(withoutSignature(line).replace("`", "")).append('\n');
            }
        }
    }

    /** The head of a method is FaceTest's matter. */
    private static String withoutSignature(String line) {
        int end = line.indexOf(")");
        int colon = line.indexOf("`: ");
        return line.startsWith("`") && end >= 0 && colon > end ? line.substring(colon + 3) : line;
    }

    /** The section that the next quotes are from. */
    void section(String name) {
        heading = name;
    }

    /** Runs the test of the quoted words. */
    void holds(String quote, Due.Call test) {
        due.begins(heading + ", '" + quote + "'");
        mark(quote);
        RuntimeException thrown = Due.thrownBy(test);
        if (thrown != null) {
            due.tell("a call of the test threw " + thrown);
        }
    }

    /** For words that ask for nothing. */
    void saysNothing(String quote) {
        due.begins(heading);
        mark(quote);
    }

    private void mark(String quote) {
        Section section = sections.get(heading);
        int at = section == null ? -1 : section.words.indexOf(quote);
        due.holds("that the document says '" + quote + "'", at >= 0);
        while (at >= 0) {
            section.quoted.set(at, at + quote.length());
            at = section.words.indexOf(quote, at + 1);
        }
    }

    void end() {
        for (Map.Entry<String, Section> each : sections.entrySet()) {
            due.begins(each.getKey());
            String left = wordsLeft(each.getValue());
            due.holds("that each word is quoted by a test; none quotes '" + left + "'", left.isEmpty());
        }
        due.end();
    }

    private static String wordsLeft(Section section) {
        StringBuilder left = new StringBuilder();
        for (int i = 0; i < section.words.length(); i++) {
            left.append(section.quoted.get(i) ? ' ' : section.words.charAt(i));
        }
        return left.toString().replaceAll("[^A-Za-z0-9]+", " ").trim();
    }
}
