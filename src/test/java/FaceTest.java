import java.io.IOException;
import java.lang.reflect.Constructor;
import java.lang.reflect.Field;
import java.lang.reflect.Method;
import java.lang.reflect.Modifier;
import java.nio.file.Files;
import java.nio.file.Path;
import java.util.ArrayList;
import java.util.List;
import java.util.Set;
import java.util.TreeSet;
import java.util.regex.Matcher;
import java.util.regex.Pattern;

/** The public face: the document's own text of it, held to the class and to its text. */
public final class FaceTest {
    private static final Path PROGRAM = Path.of("src/main/java/StoneWorks.java");
    private static final Pattern PROMISED = Pattern.compile("^`((?:int|long) \\w+\\([^)]*\\))`:");
    private static final Pattern AHEAD =
            Pattern.compile("Ahead of the calls (.*) the interface says: (---- .*)\\.");

    private final Check check = new Check("FaceTest");
    private final Face face = new Face();
    private final List<String> program = Files.readAllLines(PROGRAM);

    private FaceTest() throws IOException {
    }

    public static void main(String[] args) throws IOException {
        new FaceTest().run();
    }

    private void run() {
        checkLines();
        checkPromisesTellTheFace();
        checkWhatIsSaidAhead();
        checkMethods();
        checkFields();
        checkConstructor();
        check.finish();
    }

    private void checkLines() {
        check.due("the document's face has 27 methods", face.names().size(), 27);
        for (String line : face.lines()) {
            String due = line.endsWith(");") ? line.replace(");", ") {") : line;
            check.due("a line of the face: " + due, program.contains(due));
        }
        check.due("methods: the document's, in its order",
                Face.signatures(program).equals(Face.signatures(face.lines())));
        check.due("lines that are public", publicLines(program), publicLines(face.lines()));
    }

    private static long publicLines(List<String> lines) {
        return lines.stream().filter(line -> line.contains("public ")).count();
    }

    /** Each promise of a call tells its signature once more. */
    private void checkPromisesTellTheFace() {
        List<String> promised = new ArrayList<>();
        for (String line : face.document) {
            Matcher told = PROMISED.matcher(line);
            if (told.find()) {
                promised.add("public " + told.group(1));
            }
        }
        check.due("promises 2 to 28 tell the face: " + promised,
                promised.equals(Face.signatures(face.lines())));
    }

    private void checkWhatIsSaidAhead() {
        int groups = 0;
        for (String line : face.document) {
            Matcher ahead = AHEAD.matcher(line);
            if (ahead.matches()) {
                List<String> calls = List.of(ahead.group(1).replace("`", "").split(", "));
                check.due(line, Face.names(linesBehind("    // " + ahead.group(2))).equals(calls));
                groups++;
            }
        }
        check.due("what the interface says ahead of calls", groups, 7);
    }

    /** The lines of the program behind a comment, until the next such one. */
    private List<String> linesBehind(String comment) {
        int from = program.indexOf(comment) + 1;
        int to = from;
        while (from > 0 && to < program.size() && !program.get(to).contains("// ----")) {
            to++;
        }
        return program.subList(from, to);
    }

    private void checkMethods() {
        check.due("the class is public and final", Modifier.isPublic(StoneWorks.class.getModifiers())
                && Modifier.isFinal(StoneWorks.class.getModifiers()));
        Set<String> names = new TreeSet<>();
        for (Method method : StoneWorks.class.getDeclaredMethods()) {
            if (Modifier.isPublic(method.getModifiers())) {
                names.add(method.getName());
                checkSigns(method);
            } else {
                check.due("private: " + method, Modifier.isPrivate(method.getModifiers()));
                check.due("no name of the face: " + method, !face.names().contains(method.getName()));
            }
        }
        check.due("the methods of the document: " + names, names.equals(new TreeSet<>(face.names())));
    }

    private void checkSigns(Method method) {
        Class<?> answer = method.getName().equals("wave") ? long.class : int.class;
        check.due("what it answers: " + method, method.getReturnType() == answer);
        check.due("not static: " + method, !Modifier.isStatic(method.getModifiers()));
        for (Class<?> parameter : method.getParameterTypes()) {
            check.due("parameters: " + method, parameter == int.class);
        }
    }

    private void checkFields() {
        Set<String> names = new TreeSet<>();
        for (Field field : StoneWorks.class.getDeclaredFields()) {
            if (Modifier.isPublic(field.getModifiers())) {
                names.add(field.getName());
            } else {
                check.due("private: " + field, Modifier.isPrivate(field.getModifiers()));
            }
        }
        check.due("constants: " + names, names.equals(Set.of("NONE", "BAD", "STATE", "FULL")));
        check.due("NONE", StoneWorks.NONE, -1000000);
        check.due("BAD", StoneWorks.BAD, -1000001);
        check.due("STATE", StoneWorks.STATE, -1000002);
        check.due("FULL", StoneWorks.FULL, -1000003);
    }

    private void checkConstructor() {
        Constructor<?>[] made = StoneWorks.class.getDeclaredConstructors();
        check.due("one constructor", made.length == 1 && made[0].getParameterCount() == 0
                && Modifier.isPublic(made[0].getModifiers()));
    }
}
