import java.io.IOException;
import java.nio.file.Files;
import java.nio.file.Path;
import java.util.Set;
import java.util.TreeSet;
import java.util.regex.Matcher;
import java.util.regex.Pattern;

/** README.md: what its examples say that calls answer, and that it shows every call of the face. */
public final class ReadmeTest {
    private static final Pattern CALL = Pattern.compile("works\\.(\\w+)\\(([^)]*)\\);");
    private static final Pattern ANSWER = Pattern.compile("// (-?\\d+)");

    private final Check check = new Check("ReadmeTest");
    private final Set<String> shown = new TreeSet<>();
    private StoneWorks works = new StoneWorks();

    public static void main(String[] args) throws IOException {
        new ReadmeTest().run();
    }

    private void run() throws IOException {
        boolean isCode = false;
        for (String line : Files.readAllLines(Path.of("README.md"))) {
            if (line.startsWith("```")) {
                isCode = line.equals("```java");
            } else if (isCode) {
                follow(line);
            }
        }
        check.due("calls shown: " + shown, shown.equals(new TreeSet<>(new Face().names())));
        check.finish();
    }

    /** Of several calls on one line the answer of the last one is told. */
    private void follow(String line) {
        if (line.contains("works = new StoneWorks();")) {
            works = new StoneWorks();
        }
        long got = 0;
        Matcher call = CALL.matcher(line);
        while (call.find()) {
            got = Calls.answer(works, call.group(1), numbers(call.group(2)));
            shown.add(call.group(1));
        }
        Matcher told = ANSWER.matcher(line);
        if (told.find()) {
            check.due(line.strip(), got, Long.parseLong(told.group(1)));
        } else {
            check.due("an example without an answer: " + line, !line.contains("//"));
        }
    }

    private static int[] numbers(String text) {
        String[] words = text.isEmpty() ? new String[0] : text.split(", ");
        int[] numbers = new int[words.length];
        for (int at = 0; at < words.length; at++) {
            boolean isNone = words[at].equals("StoneWorks.NONE");
            numbers[at] = isNone ? StoneWorks.NONE : Integer.parseInt(words[at]);
        }
        return numbers;
    }
}
