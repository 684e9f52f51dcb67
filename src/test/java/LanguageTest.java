import java.io.IOException;
import java.lang.reflect.Field;
import java.lang.reflect.Method;
import java.lang.reflect.Modifier;
import java.nio.file.Files;
import java.nio.file.Path;
import java.util.List;
import java.util.Set;
import java.util.regex.Matcher;
import java.util.regex.Pattern;

/** Those rules of LANGUAGE.md that can be seen in classes and text. */
public final class LanguageTest {
    private static final List<String> BANNED = List.of("throw", "throws", "try", "catch", "synchronized",
            "assert", "import static", "System.out", "package", "volatile", "native", "Object",
            "MAX_VALUE", "MIN_VALUE", "->", "::", "@");

    private static final Check CHECK = new Check("LanguageTest");

    public static void main(String[] args) throws IOException {
        checkClasses(new Face().names());
        checkText(withoutComments(Files.readString(Path.of("src/main/java/StoneWorks.java"))));
        CHECK.finish();
    }

    private static void checkClasses(List<String> face) {
        Class<?>[] inside = StoneWorks.class.getDeclaredClasses();
        CHECK.due("11 some twelve classes", inside.length < 12);
        checkFields(StoneWorks.class);
        for (Class<?> type : inside) {
            CHECK.due("2 static: " + type, Modifier.isStatic(type.getModifiers()));
            CHECK.due("1 not public: " + type, !Modifier.isPublic(type.getModifiers()));
            checkFields(type);
            for (Method method : type.getDeclaredMethods()) {
                CHECK.due("11 parameters: " + method, method.getParameterCount() <= 7);
                CHECK.due("1 no name of the face: " + method, !face.contains(method.getName()));
            }
        }
    }

    private static void checkFields(Class<?> type) {
        int fields = 0;
        for (Field field : type.getDeclaredFields()) {
            boolean isStatic = Modifier.isStatic(field.getModifiers());
            CHECK.due("5 final: " + field, !isStatic || Modifier.isFinal(field.getModifiers()));
            fields += isStatic ? 0 : 1;
        }
        CHECK.due("11 fields: " + type, fields <= 20);
    }

    private static void checkText(String text) {
        for (String banned : BANNED) {
            boolean isWord = Character.isLetter(banned.charAt(0));
            String pattern = isWord ? "\\b" + Pattern.quote(banned) + "\\b" : Pattern.quote(banned);
            CHECK.due("not in the language: " + banned, !Pattern.compile(pattern).matcher(text).find());
        }
        CHECK.due("4 a sign beyond 127", text.chars().allMatch(sign -> sign < 128));
        CHECK.due("4 one import", text.split("\\bimport\\b", -1).length == 2);
        checkCalls(text);
        checkLengths(text);
        checkRoom(text);
    }

    private static void checkCalls(String text) {
        Matcher calls = Pattern.compile("\\b(Math|Arrays|System|Integer|Long)\\.(\\w+)").matcher(text);
        while (calls.find()) {
            String call = calls.group(1) + "." + calls.group(2);
            CHECK.due("4 the library: " + call, Set.of("Math.max", "Math.min", "Math.abs",
                    "Arrays.fill", "System.arraycopy").contains(call));
        }
    }

    /** A method begins with a line that ends with an opening brace, one or two steps in. */
    private static void checkLengths(String text) {
        int length = 0;
        for (String line : text.split("\n")) {
            boolean isEnd = line.equals("    }") || line.equals("        }");
            boolean isStart = line.matches("( {4}| {8})[a-z].*\\) \\{") && !line.matches(" +(if|for|while|switch).*");
            length = isStart || isEnd ? 0 : length + 1;
            CHECK.due("11 methods stay short: " + line, length <= 60);
        }
    }

    /** Rows are made with the object and used again: what stands in no field makes nothing. */
    private static void checkRoom(String text) {
        for (String line : text.split("\n")) {
            boolean isMade = line.matches(".*\\bnew\\b.*");
            CHECK.due("12 made in a call: " + line, !isMade || line.matches(" +private final .*"));
        }
    }

    private static String withoutComments(String text) {
        return text.replaceAll("(?s)/\\*.*?\\*/", "").replaceAll("//[^\n]*", "");
    }
}
