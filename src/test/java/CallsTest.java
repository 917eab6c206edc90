import com.sun.source.tree.ClassTree;
import com.sun.source.tree.CompilationUnitTree;
import com.sun.source.tree.MethodInvocationTree;
import com.sun.source.tree.MethodTree;
import com.sun.source.tree.NewArrayTree;
import com.sun.source.tree.NewClassTree;
import com.sun.source.util.JavacTask;
import com.sun.source.util.TreePath;
import com.sun.source.util.TreePathScanner;
import com.sun.source.util.Trees;
import java.nio.file.Path;
import java.util.ArrayDeque;
import java.util.Deque;
import java.util.HashSet;
import java.util.List;
import java.util.Map;
import java.util.Set;
import java.util.TreeMap;
import java.util.TreeSet;
import javax.lang.model.element.Element;
import javax.lang.model.element.ElementKind;
import javax.tools.JavaCompiler;
import javax.tools.StandardJavaFileManager;
import javax.tools.ToolProvider;

/** What the class's methods call and make, as the compiler reads it: rules 8, 11 and 12 of LANGUAGE.md. */
public final class CallsTest {
    private static final Due due = new Due();
    private static final int MOST_DEEP = 8;
    /** The only methods that call one another: one level for each TRACK. */
    private static final Set<String> RECURSION = Set.of("CastSearch.seek", "CastSearch.tryPerson");

    private final Map<String, Set<String>> calls = new TreeMap<>();
    private final Set<String> makers = new TreeSet<>();

    public static void main(String[] args) throws Exception {
        CallsTest read = new CallsTest();
        read.source(Path.of("src/main/java/SwingDesk.java"));
        read.depth();
        read.recursion();
        for (String maker : read.makers) {
            due.holds("a call makes an object: " + maker, maker.endsWith(".<init>"));
        }
        due.holds("the constructors make rows", read.makers.contains("SwingDesk.<init>"));
        due.end();
    }

    private void source(Path file) throws Exception {
        JavaCompiler compiler = ToolProvider.getSystemJavaCompiler();
        try (StandardJavaFileManager files = compiler.getStandardFileManager(null, null, null)) {
            JavacTask task = (JavacTask) compiler.getTask(null, files, null, null, null, files.getJavaFileObjects(file));
            List<CompilationUnitTree> units = new java.util.ArrayList<>();
            task.parse().forEach(units::add);
            task.analyze();
            for (CompilationUnitTree unit : units) {
                new Reader(Trees.instance(task)).scan(unit, null);
            }
        }
    }

    private final class Reader extends TreePathScanner<Void, Void> {
        private final Trees trees;
        private final Deque<String> open = new ArrayDeque<>();

        Reader(Trees trees) {
            this.trees = trees;
        }

        @Override
        public Void visitClass(ClassTree node, Void none) {
            // What a field's initialiser calls or makes belongs to no method.
            open.push(node.getSimpleName() + ".fields");
            calls.put(open.peek(), new HashSet<>());
            super.visitClass(node, none);
            open.pop();
            return null;
        }

        @Override
        public Void visitMethod(MethodTree node, Void none) {
            open.push(name(trees.getElement(getCurrentPath())));
            calls.put(open.peek(), new HashSet<>());
            super.visitMethod(node, none);
            open.pop();
            return null;
        }

        @Override
        public Void visitMethodInvocation(MethodInvocationTree node, Void none) {
            calls.get(open.peek()).add(name(trees.getElement(new TreePath(getCurrentPath(), node.getMethodSelect()))));
            return super.visitMethodInvocation(node, none);
        }

        @Override
        public Void visitNewClass(NewClassTree node, Void none) {
            makers.add(open.peek());
            calls.get(open.peek()).add(name(trees.getElement(getCurrentPath())));
            return super.visitNewClass(node, none);
        }

        @Override
        public Void visitNewArray(NewArrayTree node, Void none) {
            makers.add(open.peek());
            return super.visitNewArray(node, none);
        }

        private String name(Element method) {
            due.holds("a method: " + method, method.getKind() == ElementKind.METHOD
                    || method.getKind() == ElementKind.CONSTRUCTOR);
            return method.getEnclosingElement().getSimpleName() + "." + method.getSimpleName();
        }
    }

    /** "calls that are no recursion go at most eight deep": each method is met once on a way. */
    private void depth() {
        int deepest = 0;
        for (String from : calls.keySet()) {
            int deep = deepestFrom(from, new ArrayDeque<>());
            due.holds("rule 11: " + deep + " deep from " + from, deep <= MOST_DEEP);
            deepest = Math.max(deepest, deep);
        }
        due.holds("the calls were read: " + deepest + " deep", deepest > 4);
    }

    private int deepestFrom(String method, Deque<String> way) {
        // The library is not gone into.
        if (!calls.containsKey(method) || way.contains(method)) {
            return 0;
        }
        way.push(method);
        int deepest = 0;
        for (String next : calls.get(method)) {
            deepest = Math.max(deepest, deepestFrom(next, way));
        }
        way.pop();
        return deepest + 1;
    }

    private void recursion() {
        for (String method : calls.keySet()) {
            Set<String> reached = new HashSet<>();
            Deque<String> next = new ArrayDeque<>(calls.get(method));
            while (!next.isEmpty()) {
                String one = next.pop();
                if (reached.add(one)) {
                    next.addAll(calls.getOrDefault(one, Set.of()));
                }
            }
            due.holds("rule 8: recursion of " + method, reached.contains(method) == RECURSION.contains(method));
        }
    }
}
