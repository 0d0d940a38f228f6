import com.sun.source.tree.ClassTree;
import com.sun.source.tree.CompilationUnitTree;
import com.sun.source.tree.MethodInvocationTree;
import com.sun.source.tree.MethodTree;
import com.sun.source.tree.NewClassTree;
import com.sun.source.tree.Tree;
import com.sun.source.util.JavacTask;
import com.sun.source.util.TreePath;
import com.sun.source.util.TreePathScanner;
import com.sun.source.util.Trees;
import java.io.IOException;
import java.nio.file.Path;
import java.util.ArrayDeque;
import java.util.Deque;
import java.util.HashMap;
import java.util.HashSet;
import java.util.LinkedHashMap;
import java.util.List;
import java.util.Map;
import java.util.Set;
import java.util.TreeSet;
import javax.lang.model.element.Element;
import javax.lang.model.element.TypeElement;
import javax.tools.JavaCompiler;
import javax.tools.StandardJavaFileManager;
import javax.tools.ToolProvider;

/** Of LANGUAGE.md what the compiler's own tree of the class tells: who calls whom, how deep, and what of the library. */
public final class CallsTest {
    private static final Path SOURCE = Path.of("src/main/java/AnchorThatDrags.java");
    /** Rule 4, as far as the class has need of it; Object is what every constructor calls by itself. */
    private static final Set<String> LIBRARY = Set.of("String.length", "String.charAt", "Math.max", "Math.min", "Math.abs",
        "Arrays.fill", "System.arraycopy", "Object.<init>");
    /** Rule 8: who may call itself, by others too, each with a depth that it carries. */
    private static final Set<String> RECURSIVE = Set.of("AnchorThatDrags.leastDue", "AnchorThatDrags.dueWith",
        "Reader.readFrom", "Reader.readOne");
    private static final int DEEPEST = 8, LONGEST = 60, CLASSES = 12;
    private static final Due due = new Due();

    private final Map<String, Set<String>> calls = new LinkedHashMap<>();
    private final Map<String, Integer> depths = new HashMap<>();

    public static void main(String[] args) throws IOException {
        CallsTest test = new CallsTest();
        test.read();
        test.judge();
        due.end();
    }

    private static void yes(String what, boolean so) {
        due.is(what, so ? 1 : 0, 1);
    }

    private void read() throws IOException {
        JavaCompiler compiler = ToolProvider.getSystemJavaCompiler();
        try (StandardJavaFileManager files = compiler.getStandardFileManager(null, null, null)) {
            JavacTask task = (JavacTask) compiler.getTask(null, files, null, List.of("-proc:none"), null,
                files.getJavaFileObjects(SOURCE));
            for (CompilationUnitTree unit : task.parse()) {
                task.analyze();
                new Reader(Trees.instance(task), unit).scan(unit, null);
            }
        }
    }

    private void judge() {
        yes("calls are read", calls.size() > 100);
        Set<String> turning = new TreeSet<>();
        for (String method : calls.keySet()) {
            if (reached(method).contains(method)) {
                turning.add(method);
            }
        }
        yes("what calls itself " + turning, turning.equals(new TreeSet<>(RECURSIVE)));
        for (String method : calls.keySet()) {
            int depth = depth(method);
            yes("eight deep at most: " + method + " goes " + depth, depth <= DEEPEST);
        }
    }

    private Set<String> reached(String method) {
        Set<String> all = new HashSet<>();
        Deque<String> open = new ArrayDeque<>(calls.get(method));
        while (!open.isEmpty()) {
            String next = open.pop();
            if (calls.containsKey(next) && all.add(next)) {
                open.addAll(calls.get(next));
            }
        }
        return all;
    }

    /** How many of the class's own methods are open at once at most, a recursion's own calls counted once. */
    private int depth(String method) {
        Integer known = depths.get(method);
        if (known != null) {
            return known;
        }
        int most = 0;
        for (String called : calls.get(method)) {
            boolean again = RECURSIVE.contains(method) && RECURSIVE.contains(called);
            if (calls.containsKey(called) && !again) {
                most = Math.max(most, depth(called));
            }
        }
        depths.put(method, most + 1);
        return most + 1;
    }

    private final class Reader extends TreePathScanner<Void, Void> {
        private final Trees trees;
        private final CompilationUnitTree unit;
        private final Deque<String> classes = new ArrayDeque<>();
        private final Set<String> methods = new HashSet<>();
        private String method = null;
        private int classCount = 0;

        Reader(Trees trees, CompilationUnitTree unit) {
            this.trees = trees;
            this.unit = unit;
        }

        @Override
        public Void visitCompilationUnit(CompilationUnitTree tree, Void none) {
            super.visitCompilationUnit(tree, none);
            yes("some twelve classes: " + classCount, classCount <= CLASSES);
            return null;
        }

        @Override
        public Void visitClass(ClassTree tree, Void none) {
            classCount++;
            classes.push(tree.getSimpleName().toString());
            super.visitClass(tree, none);
            classes.pop();
            return null;
        }

        @Override
        public Void visitMethod(MethodTree tree, Void none) {
            String outer = method;
            method = classes.peek() + "." + tree.getName();
            yes("one of a name, so that calls are told apart: " + method, methods.add(method));
            calls.putIfAbsent(method, new TreeSet<>());
            long start = line(trees.getSourcePositions().getStartPosition(unit, tree));
            long end = line(trees.getSourcePositions().getEndPosition(unit, tree));
            yes("short: " + method + " has " + (end - start + 1) + " lines", end - start < LONGEST);
            super.visitMethod(tree, none);
            method = outer;
            return null;
        }

        private long line(long place) {
            return unit.getLineMap().getLineNumber(place);
        }

        @Override
        public Void visitMethodInvocation(MethodInvocationTree tree, Void none) {
            // arrays' clone has no class of its own and isn't used
            called(trees.getElement(new TreePath(getCurrentPath(), tree.getMethodSelect())), tree);
            return super.visitMethodInvocation(tree, none);
        }

        @Override
        public Void visitNewClass(NewClassTree tree, Void none) {
            called(trees.getElement(getCurrentPath()), tree);
            return super.visitNewClass(tree, none);
        }

        private void called(Element element, Tree tree) {
            TypeElement owner = (TypeElement) element.getEnclosingElement();
            String name = owner.getSimpleName() + "." + element.getSimpleName();
            boolean own = owner.getQualifiedName().toString().startsWith("AnchorThatDrags");
            yes("of the library: " + tree, own || LIBRARY.contains(name));
            // what makes a field has no method around it: the constructor does it
            String by = method == null ? classes.peek() + ".<init>" : method;
            if (own) {
                calls.computeIfAbsent(by, b -> new TreeSet<>()).add(name);
            }
        }
    }
}
