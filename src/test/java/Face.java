import java.io.IOException;
import java.nio.file.Files;
import java.nio.file.Path;
import java.util.ArrayList;
import java.util.List;
import java.util.regex.Matcher;
import java.util.regex.Pattern;

/** "The public face" as the document writes it. */
final class Face {
    private static final Path DOCUMENT = Path.of("../shared/DOC.md");
    private static final Pattern METHOD = Pattern.compile("public (?:int|long) (\\w+)\\([^)]*\\)");

    final List<String> document = Files.readAllLines(DOCUMENT);

    Face() throws IOException {
    }

    /** The lines between the fences of the document's first block. */
    List<String> lines() {
        List<String> rest = document.subList(document.indexOf("```java") + 1, document.size());
        return rest.subList(0, rest.indexOf("```"));
    }

    List<String> names() {
        return names(lines());
    }

    static List<String> signatures(List<String> lines) {
        return found(lines, 0);
    }

    static List<String> names(List<String> lines) {
        return found(lines, 1);
    }

    private static List<String> found(List<String> lines, int group) {
        List<String> found = new ArrayList<>();
        for (String line : lines) {
            Matcher method = METHOD.matcher(line);
            if (method.find()) {
                found.add(method.group(group));
            }
        }
        return found;
    }
}
