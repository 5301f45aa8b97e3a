import java.io.IOException;
import java.lang.reflect.InvocationTargetException;
import java.lang.reflect.Method;
import java.lang.reflect.Modifier;
import java.nio.file.DirectoryStream;
import java.nio.file.Files;
import java.nio.file.Path;
import java.util.Arrays;
import java.util.regex.Matcher;
import java.util.regex.Pattern;

/** README.md says how to use the class and how to run its tests: what it says there is so. */
final class ReadmeTest {
    private static final Check CHECK = new Check("ReadmeTest");
    private static final Pattern TYPED = Pattern.compile(
            "for \\(char c : \"(.*)\"\\.toCharArray\\(\\)\\) x\\.type\\((\\d), c\\);.*");
    private static final Pattern CALLED = Pattern.compile("x\\.(\\w+)\\(([-\\d, ]*)\\);\\s*// (-?\\d+): .*");

    public static void main(String[] args) throws IOException, ReflectiveOperationException {
        String page = Files.readString(Path.of("README.md"));
        exampleAnswersAsItSays(page);
        for (Method m : WordsLent.class.getDeclaredMethods()) {
            if (Modifier.isPublic(m.getModifiers())) {
                Matcher told = Pattern.compile("`" + m.getName() + "\\(([^)]*)\\)`").matcher(page);
                int arguments = told.find() ? numberOf(told.group(1)) : -1;
                CHECK.due(m.getName() + " is named, with its arguments", arguments, m.getParameterCount());
            }
        }
        try (DirectoryStream<Path> tests = Files.newDirectoryStream(Path.of("src/test/java"), "*Test.java")) {
            for (Path test : tests) {
                String name = test.getFileName().toString().replace(".java", "");
                Pattern row = Pattern.compile("\\| .*\\b" + name + "\\b.* \\|");
                CHECK.due(name + " has a row", row.matcher(page).find() ? 1 : 0, 1);
            }
        }
        CHECK.due("how to run them", page.contains("\n.ci/run\n") && Files.isExecutable(Path.of(".ci/run")) ? 1 : 0, 1);
        CHECK.end();
    }

    private static int numberOf(String arguments) {
        return arguments.isEmpty() ? 0 : arguments.split(", ").length;
    }

    private static void exampleAnswersAsItSays(String page) throws ReflectiveOperationException {
        int begin = page.indexOf("```java\n");
        String[] lines = page.substring(begin + 8, page.indexOf("\n```", begin + 8)).split("\n");
        CHECK.due("an object is made", lines[0].equals("WordsLent x = new WordsLent();") ? 1 : 0, 1);
        WordsLent x = new WordsLent();
        for (String line : Arrays.asList(lines).subList(1, lines.length)) {
            Matcher typed = TYPED.matcher(line);
            Matcher called = CALLED.matcher(line);
            if (typed.matches()) {
                Check.put(x, Integer.parseInt(typed.group(2)), typed.group(1));
            } else if (called.matches()) {
                CHECK.due(line, answer(x, called.group(1), called.group(2)), Long.parseLong(called.group(3)));
            } else {
                CHECK.due("a line that says what it answers: " + line, 0, 1);
            }
        }
    }

    private static long answer(WordsLent x, String name, String arguments)
            throws IllegalAccessException, InvocationTargetException, NoSuchMethodException {
        int n = numberOf(arguments);
        Object[] values = new Object[n];
        Class<?>[] ints = new Class<?>[n];
        for (int i = 0; i < n; i++) {
            values[i] = Integer.valueOf(arguments.split(", ")[i]);
            ints[i] = int.class;
        }
        return ((Number) WordsLent.class.getMethod(name, ints).invoke(x, values)).longValue();
    }
}
