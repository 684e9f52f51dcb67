import java.io.IOException;
import java.nio.file.Files;
import java.nio.file.Path;
import java.util.LinkedHashMap;
import java.util.Map;
import java.util.TreeSet;
import java.util.Set;

/**
 * The document by its sections, and what of each is left that no test has quoted: so no sentence
 * goes without a test of its own, and none is tested by words that the document does not say.
 */
final class Quotes {
    private static final Path DOCUMENT = Path.of("../shared/DOC.md");

    private final Check check;
    private final Map<String, String> sections = new LinkedHashMap<>();
    private final Set<String> opened = new TreeSet<>();
    private String name = "";
    private String rest = "";

    Quotes(Check check) throws IOException {
        this.check = check;
        read();
    }

    private void read() throws IOException {
        String section = "";
        for (String line : Files.readAllLines(DOCUMENT)) {
            String text = line;
            if (line.startsWith("## ")) {
                section = line.substring(3).replaceFirst(":.*", "");
                text = "";
            } else if (line.startsWith("========")) {
                section = "Part " + line.charAt(9);
                text = line.substring(10);
            }
            if (!isBare(text)) {
                sections.merge(section, withoutSign(text).strip(), (a, b) -> a + " " + b);
            }
        }
        sections.keySet().removeIf(each -> !each.matches("What it is|Terms|Part .|Promise .*"));
    }

    /** Fences, the title and the one long sentence that the project begins with name no boundary. */
    private static boolean isBare(String text) {
        return text.isBlank() || text.startsWith("```") || text.startsWith("Stone against sea")
                || text.startsWith("Ahead of the calls") || text.startsWith("# ");
    }

    private static String withoutSign(String text) {
        return text.replaceFirst("^`[^`]*`: ", "");
    }

    void open(String section) {
        close();
        name = section;
        rest = sections.getOrDefault(section, "");
        check.due("the document has a section " + section, !rest.isEmpty());
        opened.add(section);
    }

    void quote(String words) {
        int at = rest.indexOf(words);
        check.due(name + " of the document says: " + words, at >= 0);
        if (at >= 0) {
            rest = rest.substring(0, at) + " | " + rest.substring(at + words.length());
        }
    }

    private void close() {
        String left = rest.replace("|", "").strip();
        check.due(name + ": no test quotes: " + left, left.isEmpty());
    }

    void finish(String pattern) {
        close();
        Set<String> due = new TreeSet<>(sections.keySet());
        due.removeIf(each -> !each.matches(pattern));
        check.due("sections tested: " + opened + ", due are " + due, opened.equals(due));
    }
}
