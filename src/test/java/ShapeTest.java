import com.sun.source.tree.ClassTree;
import com.sun.source.tree.CompilationUnitTree;
import com.sun.source.tree.MethodInvocationTree;
import com.sun.source.tree.MethodTree;
import com.sun.source.tree.NewClassTree;
import com.sun.source.tree.Tree;
import com.sun.source.util.JavacTask;
import com.sun.source.util.TreePathScanner;
import com.sun.source.util.Trees;
import java.io.IOException;
import java.nio.file.Path;
import java.util.HashMap;
import java.util.HashSet;
import java.util.LinkedHashSet;
import java.util.List;
import java.util.Map;
import java.util.Set;
import javax.lang.model.element.Element;
import javax.lang.model.element.ElementKind;
import javax.lang.model.element.ExecutableElement;
import javax.lang.model.element.Modifier;
import javax.lang.model.element.TypeElement;
import javax.lang.model.element.VariableElement;
import javax.lang.model.util.ElementFilter;
import javax.tools.JavaCompiler;
import javax.tools.StandardJavaFileManager;
import javax.tools.ToolProvider;

/** Rules 2, 5, 8 and 11 of LANGUAGE.md, as the compiler itself sees the class. */
final class ShapeTest {
    private static final Check CHECK = new Check("ShapeTest");
    private static final Path SOURCE = Path.of("src/main/java/WordsLent.java");
    private static final int MOST_PARAMETERS = 7, MOST_CLASSES = 12, MOST_FIELDS = 20, MOST_DEEP = 8;
    private static final Set<String> CONSTANTS = Set.of("int", "long", "boolean", "char", "java.lang.String",
            "int[]", "long[]", "char[]", "byte[]");

    private static final Map<Element, Set<Element>> CALLS = new HashMap<>();
    private static final Map<Element, Integer> DEPTHS = new HashMap<>();
    private static final Set<TypeElement> CLASSES = new LinkedHashSet<>();

    public static void main(String[] args) throws IOException {
        look();
        CHECK.due("classes " + CLASSES, Math.max(MOST_CLASSES, CLASSES.size()), MOST_CLASSES);
        for (TypeElement c : CLASSES) {
            fieldsAreFew(c);
            staticsAreConstants(c);
            classInsideIsStatic(c);
        }
        for (Element method : CALLS.keySet()) {
            int parameters = ((ExecutableElement) method).getParameters().size();
            CHECK.due("parameters of " + method, Math.max(MOST_PARAMETERS, parameters), MOST_PARAMETERS);
            int deep = depth(method, new HashSet<>());
            CHECK.due("calls below " + method + ": " + deep, Math.max(MOST_DEEP, deep), MOST_DEEP);
        }
        CHECK.end();
    }

    private static void look() throws IOException {
        JavaCompiler compiler = ToolProvider.getSystemJavaCompiler();
        try (StandardJavaFileManager files = compiler.getStandardFileManager(null, null, null)) {
            JavacTask task = (JavacTask) compiler.getTask(null, files, null, List.of("-proc:none"), null,
                    files.getJavaFileObjects(SOURCE));
            Trees trees = Trees.instance(task);
            Iterable<? extends CompilationUnitTree> units = task.parse();
            task.analyze();
            for (CompilationUnitTree unit : units) {
                new Looker(trees).scan(unit, null);
            }
        }
    }

    /** Finds each class and, of each method, which methods of the class it calls. */
    private static final class Looker extends TreePathScanner<Void, Element> {
        private final Trees trees;

        Looker(Trees trees) {
            this.trees = trees;
        }

        @Override
        public Void visitClass(ClassTree tree, Element within) {
            CLASSES.add((TypeElement) trees.getElement(getCurrentPath()));
            return super.visitClass(tree, null);
        }

        @Override
        public Void visitMethod(MethodTree tree, Element within) {
            Element method = trees.getElement(getCurrentPath());
            CALLS.putIfAbsent(method, new HashSet<>());
            return super.visitMethod(tree, method);
        }

        @Override
        public Void visitMethodInvocation(MethodInvocationTree tree, Element within) {
            note(tree, within);
            return super.visitMethodInvocation(tree, within);
        }

        @Override
        public Void visitNewClass(NewClassTree tree, Element within) {
            note(tree, within);
            return super.visitNewClass(tree, within);
        }

        private void note(Tree tree, Element within) {
            Element called = trees.getElement(getCurrentPath());
            if (within != null && called != null) {
                CALLS.get(within).add(called);
            }
            CHECK.due("found what is called: " + tree, called == null ? 0 : 1, 1);
        }
    }

    /** How many calls of the class's own methods stand open at once, itself one; too many if one comes again. */
    private static int depth(Element method, Set<Element> open) {
        Integer known = DEPTHS.get(method);
        if (known != null) {
            return known;
        }
        if (!open.add(method)) {
            return MOST_DEEP + 1;
        }
        int below = 0;
        for (Element called : CALLS.get(method)) {
            if (CALLS.containsKey(called)) {
                below = Math.max(below, depth(called, open));
            }
        }
        open.remove(method);
        DEPTHS.put(method, below + 1);
        return below + 1;
    }

    private static void fieldsAreFew(TypeElement c) {
        int fields = 0;
        for (VariableElement field : ElementFilter.fieldsIn(c.getEnclosedElements())) {
            fields += field.getModifiers().contains(Modifier.STATIC) ? 0 : 1;
        }
        CHECK.due("fields of " + c, Math.max(MOST_FIELDS, fields), MOST_FIELDS);
    }

    private static void staticsAreConstants(TypeElement c) {
        for (VariableElement field : ElementFilter.fieldsIn(c.getEnclosedElements())) {
            if (field.getModifiers().contains(Modifier.STATIC)) {
                CHECK.due(field + " is final", field.getModifiers().contains(Modifier.FINAL) ? 1 : 0, 1);
                CHECK.due(field + " may be static", CONSTANTS.contains(field.asType().toString()) ? 1 : 0, 1);
            }
        }
    }

    private static void classInsideIsStatic(TypeElement c) {
        boolean isInside = c.getEnclosingElement().getKind() == ElementKind.CLASS;
        CHECK.due(c + " is static if it is inside", c.getModifiers().contains(Modifier.STATIC) == isInside ? 1 : 0, 1);
        CHECK.due(c + " is where it may be", isInside || c.getSimpleName().contentEquals("WordsLent") ? 1 : 0, 1);
    }
}
