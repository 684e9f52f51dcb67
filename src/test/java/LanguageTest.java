import java.io.IOException;
import java.lang.reflect.Constructor;
import java.lang.reflect.Field;
import java.lang.reflect.Method;
import java.lang.reflect.Modifier;
import java.nio.file.Files;
import java.nio.file.Path;
import java.util.List;
import java.util.Set;
import java.util.TreeSet;
import java.util.regex.Matcher;
import java.util.regex.Pattern;

/** The public face, and those rules of LANGUAGE.md that can be seen in classes and text. */
public final class LanguageTest {
    private static final Set<String> FACE = Set.of("sheet 3", "set 3", "copy 5", "drop 1", "wall 2",
            "layer 2", "relay 3", "told 2", "wide 2", "volume 1", "shared 4", "lay 2", "lift 2",
            "reaches 4", "order 3", "planned 8", "storm 4", "design 6", "survey 6", "wave 7", "calm 6",
            "kind 1", "as 2", "ask 2", "trace 1", "count 1", "status 0");
    private static final List<String> BANNED = List.of("throw", "throws", "try", "catch", "synchronized",
            "assert", "import static", "Exact", "System.out", "package", "volatile", "native", "Object",
            "MAX_VALUE", "MIN_VALUE", "->", "::", "@");

    private static final Check CHECK = new Check("LanguageTest");

    public static void main(String[] args) throws IOException {
        checkFace();
        checkClasses();
        checkText(withoutComments(Files.readString(Path.of("src/main/java/StoneWorks.java"))));
        CHECK.finish();
    }

    private static void checkFace() {
        Class<?> type = StoneWorks.class;
        CHECK.due("1 the class is public and final", Modifier.isPublic(type.getModifiers())
                && Modifier.isFinal(type.getModifiers()));
        Set<String> face = new TreeSet<>();
        for (Method method : type.getDeclaredMethods()) {
            if (Modifier.isPublic(method.getModifiers())) {
                face.add(method.getName() + " " + method.getParameterCount());
                checkSigns(method);
            } else {
                CHECK.due("1 private: " + method, Modifier.isPrivate(method.getModifiers()));
                CHECK.due("1 no name of the face: " + method, !isOfFace(method));
            }
        }
        CHECK.due("1 the methods of the document: " + face, face.equals(FACE));
        Set<String> fields = new TreeSet<>();
        for (Field field : type.getDeclaredFields()) {
            if (Modifier.isPublic(field.getModifiers())) {
                fields.add(field.getName());
            } else {
                CHECK.due("1 private: " + field, Modifier.isPrivate(field.getModifiers()));
            }
        }
        CHECK.due("1 constants: " + fields, fields.equals(Set.of("NONE", "BAD", "STATE", "FULL")));
        Constructor<?>[] made = type.getDeclaredConstructors();
        CHECK.due("1 one constructor", made.length == 1 && made[0].getParameterCount() == 0
                && Modifier.isPublic(made[0].getModifiers()));
    }

    private static boolean isOfFace(Method method) {
        for (String call : FACE) {
            if (call.startsWith(method.getName() + " ")) {
                return true;
            }
        }
        return false;
    }

    private static void checkSigns(Method method) {
        Class<?> answer = method.getName().equals("wave") ? long.class : int.class;
        CHECK.due("1 what it answers: " + method, method.getReturnType() == answer);
        CHECK.due("1 no static: " + method, !Modifier.isStatic(method.getModifiers()));
        for (Class<?> parameter : method.getParameterTypes()) {
            CHECK.due("1 parameters: " + method, parameter == int.class);
        }
    }

    private static void checkClasses() {
        Class<?>[] inside = StoneWorks.class.getDeclaredClasses();
        CHECK.due("11 some twelve classes", inside.length < 12);
        for (Class<?> type : inside) {
            CHECK.due("2 static: " + type, Modifier.isStatic(type.getModifiers()));
            CHECK.due("1 not public: " + type, !Modifier.isPublic(type.getModifiers()));
            int fields = 0;
            for (Field field : type.getDeclaredFields()) {
                boolean isStatic = Modifier.isStatic(field.getModifiers());
                CHECK.due("5 final: " + field, !isStatic || Modifier.isFinal(field.getModifiers()));
                fields += isStatic ? 0 : 1;
            }
            CHECK.due("11 fields: " + type, fields <= 20);
            for (Method method : type.getDeclaredMethods()) {
                CHECK.due("11 parameters: " + method, method.getParameterCount() <= 7);
                CHECK.due("1 no name of the face: " + method, !isOfFace(method));
            }
        }
    }

    private static void checkText(String text) {
        for (String banned : BANNED) {
            boolean isWord = Character.isLetter(banned.charAt(0));
            String pattern = isWord ? "\\b" + Pattern.quote(banned) + "\\b" : Pattern.quote(banned);
            CHECK.due("not in the language: " + banned, !Pattern.compile(pattern).matcher(text).find());
        }
        CHECK.due("4 a sign beyond 127", text.chars().allMatch(sign -> sign < 128));
        CHECK.due("4 one import", text.split("\\bimport\\b", -1).length == 2);
        checkCalls(text);
        checkLengths(text);
    }

    private static void checkCalls(String text) {
        Matcher calls = Pattern.compile("\\b(Math|Arrays|System|Integer|Long)\\.(\\w+)").matcher(text);
        while (calls.find()) {
            String call = calls.group(1) + "." + calls.group(2);
            CHECK.due("4 the library: " + call, Set.of("Math.max", "Math.min", "Math.abs",
                    "Arrays.fill", "System.arraycopy").contains(call));
        }
    }

    /** A method begins with a line that ends with an opening brace, one or two steps in. */
    private static void checkLengths(String text) {
        int length = 0;
        for (String line : text.split("\n")) {
            boolean isEnd = line.equals("    }") || line.equals("        }");
            boolean isStart = line.matches("( {4}| {8})[a-z].*\\) \\{") && !line.matches(" +(if|for|while|switch).*");
            length = isStart || isEnd ? 0 : length + 1;
            CHECK.due("11 methods stay short: " + line, length <= 60);
        }
    }

    private static String withoutComments(String text) {
        return text.replaceAll("(?s)/\\*.*?\\*/", "").replaceAll("//[^\n]*", "");
    }
}
