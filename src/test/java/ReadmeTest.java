import java.io.IOException;
import java.io.UncheckedIOException;
import java.lang.reflect.InvocationTargetException;
import java.lang.reflect.Method;
import java.nio.file.Files;
import java.nio.file.Path;
import java.util.ArrayList;
import java.util.List;
import java.util.TreeSet;
import java.util.regex.Matcher;
import java.util.regex.Pattern;

/** README.md: its calls answer what it says, and it has every method, exception and test that there is. */
public final class ReadmeTest {
    private static final Pattern CALL = Pattern.compile("x\\.(\\w+)\\(([^)]*)\\);\\s*(?:// (.*))?");
    private static final Pattern FACE = Pattern.compile(" *public (?!static|final)([^;]*?)(?: throws [^;]*)?;");

    public static void main(String[] args) {
        Checks.sentence("(README.md: Use)", ReadmeTest::callsAnswerAsWritten);
        Checks.sentence("(README.md: Methods)", ReadmeTest::methodsAreThoseOfTheFace);
        Checks.sentence("(README.md: Methods, what throws)", ReadmeTest::exceptionsAreThoseOfTheFace);
        Checks.sentence("(README.md: Tests)", ReadmeTest::testsAreThoseThatRun);
        Checks.end("ReadmeTest");
    }

    private static void callsAnswerAsWritten() {
        List<String> lines = example();
        Checks.due("the first line", lines.get(0), "ShortBridge x = new ShortBridge();");
        ShortBridge x = new ShortBridge();
        TreeSet<String> used = new TreeSet<>();
        for (String line : lines.subList(1, lines.size())) {
            Matcher call = CALL.matcher(line);
            Checks.due("a line that is a call: " + line, call.matches(), true);
            used.add(call.group(1));
            Checks.due(line, answer(x, call.group(1), call.group(2)), written(call.group(3)));
        }
        Checks.due("methods that are used", used.size() > 12, true);
    }

    private static void methodsAreThoseOfTheFace() {
        List<String> face = new ArrayList<>();
        for (String line : lines("../shared/DOC.md")) {
            Matcher member = FACE.matcher(line);
            if (member.matches()) {
                face.add(member.group(1));
            }
        }
        Checks.due("members of the document's face", face.size(), 18);
        List<String> told = new ArrayList<>();
        for (String line : lines("README.md")) {
            if (line.startsWith("| `") && line.contains(")` |")) {
                told.add(line.substring(3, line.indexOf("` |")));
            }
        }
        Checks.due("methods", String.join("\n", told), String.join("\n", face));
    }

    private static void exceptionsAreThoseOfTheFace() {
        List<String> told = new ArrayList<>();
        for (String line : lines("README.md")) {
            String[] cells = line.split("[| `]+");
            if (line.startsWith("| `") && line.contains("Exception` |")) {
                told.add(cells[1] + " " + cells[2]);
            }
        }
        List<String> thrown = new ArrayList<>();
        for (String name : List.of("call", "play", "score", "solve", "record", "points", "places")) {
            for (Class<?> exception : method(name).getExceptionTypes()) {
                thrown.add(name + " " + exception.getSimpleName());
            }
        }
        int all = 0;
        for (Method m : ShortBridge.class.getMethods()) {
            all += m.getDeclaringClass() == ShortBridge.class ? m.getExceptionTypes().length : 0;
        }
        Checks.due("exceptions of all methods", thrown.size(), all);
        Checks.due("exceptions", String.join("\n", told), String.join("\n", thrown));
    }

    private static void testsAreThoseThatRun() {
        TreeSet<String> told = new TreeSet<>();
        for (String line : lines("README.md")) {
            Matcher row = Pattern.compile("\\| (\\w+Test) \\|.*").matcher(line);
            if (row.matches()) {
                told.add(row.group(1) + ".java");
            }
        }
        TreeSet<String> there = new TreeSet<>();
        for (String file : Path.of("src/test/java").toFile().list()) {
            if (file.endsWith("Test.java")) {
                there.add(file);
            }
        }
        Checks.due("tests", told.toString(), there.toString());
        Checks.due("the way to run them", lines("README.md").contains(".ci/run"), true);
    }

    private static List<String> example() {
        List<String> all = lines("README.md");
        int first = all.indexOf("```java") + 1;
        int length = all.subList(first, all.size()).indexOf("```");
        return all.subList(first, first + length);
    }

    /** What a comment says of the answer; one without "= " or "throws " belongs to a call that answers nothing. */
    private static String written(String comment) {
        if (comment == null) {
            return "nothing";
        }
        String told = comment.split(":")[0];
        if (told.startsWith("= ")) {
            return told.substring(2);
        }
        return told.startsWith("throws ") ? told : "nothing";
    }

    private static String answer(ShortBridge x, String name, String arguments) {
        Method method = method(name);
        Class<?>[] types = method.getParameterTypes();
        Object[] values = new Object[types.length];
        String[] words = arguments.split(", ");
        for (int i = 0; i < values.length; i++) {
            long value = Long.parseLong(words[i]);
            if (types[i] == long.class) {
                values[i] = value;
            } else {
                values[i] = (int) value;
            }
        }
        try {
            Object answer = method.invoke(x, values);
            return method.getReturnType() == void.class ? "nothing" : String.valueOf(answer);
        } catch (InvocationTargetException e) {
            return "throws " + e.getCause().getClass().getSimpleName();
        } catch (IllegalAccessException e) {
            return "is not public";
        }
    }

    private static Method method(String name) {
        for (Method m : ShortBridge.class.getMethods()) {
            if (m.getName().equals(name)) {
                return m;
            }
        }
        throw new IllegalArgumentException("there is no method " + name);
    }

    private static List<String> lines(String file) {
        try {
            return Files.readAllLines(Path.of(file));
        } catch (IOException e) {
            throw new UncheckedIOException(e);
        }
    }
}
