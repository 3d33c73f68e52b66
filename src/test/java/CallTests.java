import com.sun.source.tree.CompilationUnitTree;
import com.sun.source.tree.MethodInvocationTree;
import com.sun.source.tree.MethodTree;
import com.sun.source.tree.NewClassTree;
import com.sun.source.util.JavacTask;
import com.sun.source.util.TreePathScanner;
import com.sun.source.util.Trees;
import java.io.IOException;
import java.nio.file.Path;
import java.util.ArrayDeque;
import java.util.HashMap;
import java.util.HashSet;
import java.util.LinkedHashMap;
import java.util.LinkedHashSet;
import java.util.Map;
import java.util.Set;
import javax.lang.model.element.Element;
import javax.lang.model.element.Modifier;
import javax.tools.JavaCompiler;
import javax.tools.StandardJavaFileManager;
import javax.tools.ToolProvider;

/**
 * The rules of LANGUAGE.md on who calls whom: what the library lends, how deep calls go, and which
 * methods come back to themselves. Calls of one recursion count as one.
 */
public final class CallTests {
    private static final Checks CHECKS = new Checks();
    private static final int DEEPEST = 8;
    private static final Set<String> LENT = Set.of("java.lang.Object.Object", "java.lang.Math.max",
            "java.lang.Math.min", "java.lang.Integer.bitCount", "java.lang.String.length",
            "java.lang.String.charAt", "java.lang.System.arraycopy", "java.util.Arrays.fill");

    private final Map<Element, Set<Element>> calls = new LinkedHashMap<>();
    private final Map<Element, Set<Element>> reached = new HashMap<>();
    private final Map<Element, Integer> depths = new HashMap<>();

    public static void main(String[] args) throws IOException {
        CallTests tests = new CallTests();
        tests.read(Path.of("src/main/java/RailHouses.java"));
        tests.reachAll();
        tests.library();
        tests.recursion();
        tests.depth();
        CHECKS.close();
    }

    private void read(Path source) throws IOException {
        JavaCompiler compiler = ToolProvider.getSystemJavaCompiler();
        try (StandardJavaFileManager files = compiler.getStandardFileManager(null, null, null)) {
            JavacTask task = (JavacTask) compiler.getTask(null, files, null, null, null,
                    files.getJavaFileObjects(source));
            Iterable<? extends CompilationUnitTree> units = task.parse();
            task.analyze();
            for (CompilationUnitTree unit : units) {
                new Scanner(Trees.instance(task)).scan(unit, null);
            }
        }
    }

    private final class Scanner extends TreePathScanner<Void, Void> {
        private final Trees trees;
        private Element caller;

        Scanner(Trees trees) {
            this.trees = trees;
        }

        @Override
        public Void visitMethod(MethodTree tree, Void none) {
            caller = trees.getElement(getCurrentPath());
            calls.put(caller, new LinkedHashSet<>());
            return super.visitMethod(tree, none);
        }

        @Override
        public Void visitMethodInvocation(MethodInvocationTree tree, Void none) {
            add();
            return super.visitMethodInvocation(tree, none);
        }

        @Override
        public Void visitNewClass(NewClassTree tree, Void none) {
            add();
            return super.visitNewClass(tree, none);
        }

        private void add() {
            // a field's initialiser is outside of every method: it calls constructors alone
            if (caller != null) {
                calls.get(caller).add(trees.getElement(getCurrentPath()));
            }
        }
    }

    private void reachAll() {
        for (Element from : calls.keySet()) {
            Set<Element> all = new HashSet<>();
            ArrayDeque<Element> next = new ArrayDeque<>(calls.get(from));
            while (!next.isEmpty()) {
                Element to = next.poll();
                if (all.add(to)) {
                    next.addAll(calls.getOrDefault(to, Set.of()));
                }
            }
            reached.put(from, all);
        }
    }

    private static String name(Element method) {
        String own = method.getSimpleName().toString();
        String in = method.getEnclosingElement().toString();
        return in + "." + (own.equals("<init>") ? in.substring(in.lastIndexOf('.') + 1) : own);
    }

    private void library() {
        CHECKS.part("rule 4, the library");
        for (Map.Entry<Element, Set<Element>> entry : calls.entrySet()) {
            for (Element to : entry.getValue()) {
                if (!calls.containsKey(to) && !name(to).startsWith("RailHouses")) {
                    CHECKS.due(name(entry.getKey()) + " calls " + name(to),
                            LENT.contains(name(to)), true);
                }
            }
        }
    }

    private boolean areOneRecursion(Element one, Element other) {
        return reached.getOrDefault(one, Set.of()).contains(other)
                && reached.getOrDefault(other, Set.of()).contains(one);
    }

    private void recursion() {
        CHECKS.part("rule 8, recursion");
        for (Element method : calls.keySet()) {
            if (reached.get(method).contains(method)) {
                CHECKS.due(name(method) + " is private",
                        method.getModifiers().contains(Modifier.PRIVATE), true);
                CHECKS.due(name(method) + " calls itself only if it is static",
                        calls.get(method).contains(method)
                        && !method.getModifiers().contains(Modifier.STATIC), false);
            }
        }
    }

    private void depth() {
        CHECKS.part("rule 11, calls at most eight deep");
        int faces = 0;
        for (Element method : calls.keySet()) {
            if (method.getModifiers().contains(Modifier.PUBLIC)) {
                faces++;
                int depth = depthOf(method);
                CHECKS.due(name(method) + ", " + depth + " deep", depth <= DEEPEST, true);
            }
        }
        CHECKS.due("the constructor and the methods of the face", faces, 32);
    }

    private int depthOf(Element method) {
        Integer known = depths.get(method);
        if (known != null) {
            return known;
        }
        int depth = 0;
        for (Element one : calls.keySet()) {
            if (one == method || areOneRecursion(one, method)) {
                for (Element to : calls.get(one)) {
                    if (calls.containsKey(to) && to != method && !areOneRecursion(to, method)) {
                        depth = Math.max(depth, depthOf(to));
                    }
                }
            }
        }
        depths.put(method, depth + 1);
        return depth + 1;
    }
}
