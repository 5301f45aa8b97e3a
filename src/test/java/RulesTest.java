import java.io.IOException;
import java.nio.file.Files;
import java.nio.file.Path;
import java.util.List;
import java.util.Set;
import java.util.regex.Matcher;
import java.util.regex.Pattern;

/** Rules of LANGUAGE.md that can be seen in the source. */
final class RulesTest {
    private static final Check CHECK = new Check("RulesTest");
    private static final String[] BARRED = {
        "\\bthrow\\b", "\\btry\\b", "\\bcatch\\b", "\\bsynchronized\\b", "\\bassert\\b", "->", "::", "\\bimport\\b",
        "\\bpackage\\b", "Exact\\(", "static \\{", "\\bprotected\\b", "while \\(true\\)", "for \\(;;", "\\bvar\\b"};
    private static final Set<String> LIBRARY = Set.of("Math.min", "Math.max", "Integer.bitCount", "System.arraycopy");
    private static final Pattern OF_A_CLASS = Pattern.compile("\\b[A-Z]\\w*[a-z]\\w*\\.\\w+");

    public static void main(String[] args) throws IOException {
        List<String> lines = Files.readAllLines(Path.of("src/main/java/WordsLent.java"));
        for (String line : lines) {
            String code = line.strip();
            if (code.startsWith("//") || code.startsWith("*") || code.startsWith("/**")) {
                continue;
            }
            for (String barred : BARRED) {
                CHECK.due(barred + " in: " + code, Pattern.compile(barred).matcher(code).find() ? 1 : 0, 0);
            }
            libraryIsListed(code);
        }
        methodsAreShort(lines);
        CHECK.end();
    }

    /** Rule 4: of the library's classes only what stands there; of the own ones anything. */
    private static void libraryIsListed(String code) {
        Matcher m = OF_A_CLASS.matcher(code);
        while (m.find()) {
            boolean isOwn = m.group().startsWith("Echoes.");
            CHECK.due(m.group() + " is listed", isOwn || LIBRARY.contains(m.group()) ? 1 : 0, 1);
        }
    }

    private static void methodsAreShort(List<String> lines) {
        int begun = 0;
        for (int i = 0; i < lines.size(); i++) {
            if (lines.get(i).matches(" {4,8}\\S.*\\) \\{")) {
                begun = i;
            }
            if (lines.get(i).matches(" {4,8}\\}")) {
                CHECK.due("lines of: " + lines.get(begun).strip(), Math.max(60, i - begun), 60);
            }
        }
    }
}
