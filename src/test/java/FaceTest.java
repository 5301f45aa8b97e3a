import java.io.IOException;
import java.lang.reflect.Constructor;
import java.lang.reflect.Field;
import java.lang.reflect.Method;
import java.lang.reflect.Modifier;
import java.nio.file.Files;
import java.nio.file.Path;
import java.util.Arrays;
import java.util.List;
import java.util.Set;
import java.util.TreeSet;
import java.util.regex.Matcher;
import java.util.regex.Pattern;

/** The face of the document, and rule 1 of LANGUAGE.md: nothing beside it can be seen from outside. */
final class FaceTest {
    private static final Check CHECK = new Check("FaceTest");
    private static final String[] FACE = {
        "int type 2", "int wipe 1", "int undo 1", "int fault 1", "int person 2", "int word 2", "int meeting 2",
        "int echo 2", "int back 0", "int read 1", "int stands 3", "int at 3", "int clear 1", "int bank 1",
        "int ring 2", "int silent 0", "int meet 2", "int live 1", "int voice 1", "int spare 1", "int tally 3",
        "int forget 0", "int never 0", "int sort 1", "int lent 1", "int ask 1", "long chance 3", "int lives 3",
        "int sheet 3", "int lose 1", "int lay 4", "int get 3", "int copy 5", "int write 2", "int count 1",
        "long digest 0"};

    private static final String[] INTERFACE = {
        "---- people, words, meetings, echoes", "type", "wipe", "undo", "fault", "person", "word", "meeting", "echo",
        "back", "read",
        "---- days", "stands", "at", "clear", "bank", "ring", "silent",
        "---- plans", "meet", "live", "voice", "spare",
        "---- counted, chance, lives", "tally", "forget", "never", "sort", "lent", "ask", "chance", "lives",
        "---- sheets", "sheet", "lose", "lay", "get", "copy", "write", "count", "digest"};
    private static final Pattern TOLD = Pattern.compile("    (?:// (----.*)|public (?:int|long) (\\w+)\\(.*)");

    public static void main(String[] args) throws IOException {
        Class<?> c = WordsLent.class;
        CHECK.due("public and final", c.getModifiers(), Modifier.PUBLIC | Modifier.FINAL);
        Set<String> due = new TreeSet<>(Set.of(FACE));
        Set<String> names = new TreeSet<>();
        Set<String> seen = new TreeSet<>();
        for (Method m : c.getDeclaredMethods()) {
            if (!Modifier.isPrivate(m.getModifiers())) {
                CHECK.due(m + " is public and nothing more", m.getModifiers(), Modifier.PUBLIC);
                seen.add(m.getReturnType() + " " + m.getName() + " " + m.getParameterCount());
                names.add(m.getName());
                for (Class<?> p : m.getParameterTypes()) {
                    CHECK.due(m + " takes ints", p == int.class ? 1 : 0, 1);
                }
            }
        }
        CHECK.due("methods " + seen, seen.equals(due) ? 1 : 0, 1);
        noPrivateNamesake(c, names);
        for (Class<?> inner : c.getDeclaredClasses()) {
            CHECK.due(inner + " is static", Modifier.isStatic(inner.getModifiers()) ? 1 : 0, 1);
            noPrivateNamesake(inner, names);
        }
        constructors(c);
        constants(c);
        headingsStandAhead();
        CHECK.end();
    }

    /** Ahead of the calls type, wipe .. the interface says: ---- people, words, meetings, echoes. */
    private static void headingsStandAhead() throws IOException {
        List<String> due = Arrays.asList(INTERFACE);
        int told = 0;
        for (String line : Files.readAllLines(Path.of("src/main/java/WordsLent.java"))) {
            Matcher m = TOLD.matcher(line);
            if (m.matches() && told < due.size()) {
                String said = m.group(1) == null ? m.group(2) : m.group(1);
                CHECK.due(said + " stands where " + due.get(told) + " is due", said.equals(due.get(told)) ? 1 : 0, 1);
                told++;
            }
        }
        CHECK.due("headings and calls", told, due.size());
    }

    private static void noPrivateNamesake(Class<?> c, Set<String> names) {
        for (Method m : c.getDeclaredMethods()) {
            if (!Modifier.isPublic(m.getModifiers())) {
                CHECK.due(m + " has a name of its own", names.contains(m.getName()) ? 0 : 1, 1);
            }
        }
    }

    private static void constructors(Class<?> c) {
        Constructor<?>[] all = c.getDeclaredConstructors();
        CHECK.due("one constructor", all.length, 1);
        CHECK.due("it is public", all[0].getModifiers(), Modifier.PUBLIC);
        CHECK.due("it takes nothing", all[0].getParameterCount(), 0);
    }

    private static void constants(Class<?> c) {
        int seen = 0;
        for (Field f : c.getDeclaredFields()) {
            if (!Modifier.isPrivate(f.getModifiers())) {
                seen++;
                CHECK.due(f + " is a constant", f.getModifiers(), Modifier.PUBLIC | Modifier.STATIC | Modifier.FINAL);
            }
            if (Modifier.isStatic(f.getModifiers())) {
                CHECK.due(f + " is final", Modifier.isFinal(f.getModifiers()) ? 1 : 0, 1);
            }
        }
        CHECK.due("four constants", seen, 4);
        CHECK.due("NONE", WordsLent.NONE, -1);
        CHECK.due("BAD", WordsLent.BAD, -2);
        CHECK.due("NOT", WordsLent.NOT, -3);
        CHECK.due("FULL", WordsLent.FULL, -4);
    }
}
