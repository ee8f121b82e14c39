import java.io.IOException;
import java.nio.charset.StandardCharsets;
import java.nio.file.Files;
import java.nio.file.Path;
import java.util.List;
import java.util.regex.Pattern;

/** Those rules of the language that the text of the program shows by itself. */
public final class LanguageTest {
    private static final Path SOURCE = Path.of("src/main/java/ShortBridge.java");

    public static void main(String[] args) throws IOException {
        List<String> lines = Files.readAllLines(SOURCE, StandardCharsets.US_ASCII);
        String[] never = {
            "->", "::", "\\btry\\b", "\\bcatch\\b", "\\bfinally\\b", "\\bsynchronized\\b", "\\bassert\\b", "\\bpackage\\b",
            "\\bstatic \\{", "\\bSystem\\b", "\\bThread\\b", "\\bprotected\\b", "\\bvar\\b", "Exact\\("
        };
        for (int i = 0; i < lines.size(); i++) {
            String line = lines.get(i).strip();
            if (line.startsWith("//") || line.startsWith("/**")) {
                continue;
            }
            for (String word : never) {
                Checks.due("line " + (i + 1) + " has " + word, Pattern.compile(word).matcher(line).find(), false);
            }
            if (line.startsWith("import ")) {
                Checks.due("line " + (i + 1), line, "import java.util.NoSuchElementException;");
            }
            // All calls of a run live in one room, so none but the constructor makes an object.
            if (line.contains("new ")) {
                boolean isKept = line.startsWith("private final ") || line.startsWith("throw new ");
                Checks.due("line " + (i + 1) + " makes an object for good", isKept, true);
            }
        }
        Checks.end("LanguageTest");
    }
}
