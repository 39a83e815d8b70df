import com.sun.source.tree.CompilationUnitTree;
import com.sun.source.tree.MethodInvocationTree;
import com.sun.source.tree.MethodTree;
import com.sun.source.tree.NewClassTree;
import com.sun.source.tree.Tree;
import com.sun.source.util.JavacTask;
import com.sun.source.util.TreePathScanner;
import com.sun.source.util.Trees;
import java.nio.file.Path;
import java.util.ArrayDeque;
import java.util.HashMap;
import java.util.LinkedHashSet;
import java.util.List;
import java.util.Map;
import java.util.Set;
import javax.lang.model.element.Element;
import javax.lang.model.element.TypeElement;
import javax.tools.JavaCompiler;
import javax.tools.StandardJavaFileManager;
import javax.tools.ToolProvider;

/** LANGUAGE.md, rules 4, 8 and 11: which library is called, that nothing calls itself, how deep calls go. */
public final class CallsTest {
    private static final int DEEPEST = 8;
    // What RanOut needs now; rule 4 allows more.
    private static final Set<String> LIBRARY = Set.of("java.lang.System.arraycopy", "java.util.Arrays.copyOf", "java.util.Arrays.fill",
        "java.lang.String.charAt", "java.lang.Math.min", "java.lang.Math.max", "java.lang.Integer.bitCount");
    private static final Map<Element, Set<Element>> CALLS = new HashMap<>();
    private static int wrong = 0;

    public static void main(String[] args) throws Exception {
        JavaCompiler compiler = ToolProvider.getSystemJavaCompiler();
        try (StandardJavaFileManager files = compiler.getStandardFileManager(null, null, null)) {
            JavacTask task = (JavacTask) compiler.getTask(null, files, null, null, null,
                files.getJavaFileObjects(Path.of(args[0], "src/main/java/RanOut.java")));
            List<CompilationUnitTree> units = new java.util.ArrayList<>();
            task.parse().forEach(units::add);
            task.analyze();
            for (CompilationUnitTree unit : units) {
                new Calls(Trees.instance(task)).scan(unit, null);
            }
        }
        blame(CALLS.size() < 26, "only " + CALLS.size() + " methods are seen");
        for (Element method : CALLS.keySet()) {
            goDown(method, new ArrayDeque<>());
        }
        System.out.println(wrong == 0 ? "CallsTest: nothing found" : "CallsTest: " + wrong + " found");
        System.exit(wrong == 0 ? 0 : 1);
    }

    private static void blame(boolean is, String what) {
        if (is && wrong < 20) {
            System.out.println(what);
        }
        wrong += is ? 1 : 0;
    }

    private static void goDown(Element method, ArrayDeque<Element> open) {
        boolean again = open.contains(method);
        open.addLast(method);
        blame(again, "calls itself: " + open);
        blame(open.size() > DEEPEST, "deeper than " + DEEPEST + ": " + open);
        if (!again && open.size() <= DEEPEST) {
            for (Element called : CALLS.get(method)) {
                goDown(called, open);
            }
        }
        open.removeLast();
    }

    /** Notes for each method which of the class's own it calls; constructors count as methods. */
    private static final class Calls extends TreePathScanner<Void, Void> {
        private final Trees trees;
        private Element method;

        Calls(Trees trees) {
            this.trees = trees;
        }

        @Override
        public Void visitMethod(MethodTree tree, Void none) {
            method = trees.getElement(getCurrentPath());
            CALLS.put(method, CALLS.getOrDefault(method, new LinkedHashSet<>()));
            super.visitMethod(tree, none);
            method = null;
            return null;
        }

        @Override
        public Void visitMethodInvocation(MethodInvocationTree tree, Void none) {
            note(tree);
            return super.visitMethodInvocation(tree, none);
        }

        @Override
        public Void visitNewClass(NewClassTree tree, Void none) {
            note(tree);
            return super.visitNewClass(tree, none);
        }

        private void note(Tree tree) {
            Element called = trees.getElement(getCurrentPath());
            TypeElement owner = (TypeElement) called.getEnclosingElement();
            String name = owner.getQualifiedName() + "." + called.getSimpleName();
            if (owner.getQualifiedName().toString().startsWith("RanOut")) {
                CALLS.computeIfAbsent(called, k -> new LinkedHashSet<>());
                if (method != null) {
                    CALLS.get(method).add(called);
                }
            } else {
                blame(!LIBRARY.contains(name) && !name.equals("java.lang.Object.<init>"), "called: " + name + " by " + tree);
            }
        }
    }
}
