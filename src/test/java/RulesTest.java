import java.io.IOException;
import java.nio.file.Files;
import java.nio.file.Path;
import java.util.List;
import java.util.regex.Pattern;

/** Rules of LANGUAGE.md that can be seen in the source. */
final class RulesTest {
    private static final Check CHECK = new Check("RulesTest");
    private static final String[] BARRED = {
        "\\bthrow\\b", "\\btry\\b", "\\bcatch\\b", "\\bsynchronized\\b", "\\bassert\\b", "->", "::", "\\bimport\\b",
        "\\bpackage\\b", "Exact\\(", "static \\{", "\\bprotected\\b", "while \\(true\\)", "for \\(;;", "\\bvar\\b"};

    public static void main(String[] args) throws IOException {
        List<String> lines = Files.readAllLines(Path.of("src/main/java/WordsLent.java"));
        for (String line : lines) {
            String code = line.strip();
            if (code.startsWith("//") || code.startsWith("*") || code.startsWith("/**")) {
                continue;
            }
            for (String barred : BARRED) {
                CHECK.due(barred + " in: " + code, Pattern.compile(barred).matcher(code).find() ? 1 : 0, 0);
            }
        }
        methodsAreShort(lines);
        CHECK.end();
    }

    private static void methodsAreShort(List<String> lines) {
        int begun = 0;
        for (int i = 0; i < lines.size(); i++) {
            if (lines.get(i).matches(" {4,8}\\S.*\\) \\{")) {
                begun = i;
            }
            if (lines.get(i).matches(" {4,8}\\}")) {
                CHECK.due("lines of: " + lines.get(begun).strip(), Math.max(60, i - begun), 60);
            }
        }
    }
}
