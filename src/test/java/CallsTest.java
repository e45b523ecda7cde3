import com.sun.source.tree.ClassTree;
import com.sun.source.tree.CompilationUnitTree;
import com.sun.source.tree.MethodInvocationTree;
import com.sun.source.tree.MethodTree;
import com.sun.source.tree.NewClassTree;
import com.sun.source.util.JavacTask;
import com.sun.source.util.TreePathScanner;
import com.sun.source.util.Trees;
import java.io.IOException;
import java.nio.file.Path;
import java.util.List;
import java.util.Map;
import java.util.Set;
import java.util.TreeMap;
import java.util.TreeSet;
import javax.lang.model.element.Element;
import javax.tools.JavaCompiler;
import javax.tools.StandardJavaFileManager;
import javax.tools.ToolProvider;

/** Rules of LANGUAGE.md on calls: how deep they go (11), which recursions there are (8), what of the library is used (4). */
public final class CallsTest {
    private static final int DEEPEST = 8;
    private static final Set<String> LIBRARY = Set.of("System.arraycopy", "Arrays.fill", "Arrays.copyOf",
        "Integer.bitCount", "Math.abs", "Math.min", "Object.<init>", "IndexOutOfBoundsException.<init>",
        "IllegalArgumentException.<init>", "IllegalStateException.<init>", "UnsupportedOperationException.<init>");
    /** Each carries its depth as an argument and has a guard on it. */
    private static final Set<String> RECURSIONS = Set.of("Arcs.countFrom", "Polynomials.takeBoth", "Polynomials.unfold");
    private static final Bench BENCH = new Bench();
    private static final Map<String, Set<String>> CALLED = new TreeMap<>();

    public static void main(String[] args) throws IOException {
        scan(Path.of("src/main/java/KnotHouse.java"));
        BENCH.due("methods were found", true, () -> CALLED.size() > 100);
        BENCH.due("no two methods of a class call one another in a ring", RECURSIONS.size(), () -> countRings());
        for (String method : CALLED.keySet()) {
            BENCH.due("calls from " + method + " on go at most eight deep", true, () -> depth(method, 0) <= DEEPEST);
            boolean recursion = RECURSIONS.contains(method);
            BENCH.due(method + " calls itself", recursion, () -> CALLED.get(method).contains(method));
            for (String called : CALLED.get(method)) {
                BENCH.due(method + " may call " + called, true,
                    () -> CALLED.containsKey(called) || LIBRARY.contains(called));
            }
        }
        BENCH.finish();
    }

    /** Calls of the library are counted, too; a method that calls itself counts once. */
    private static int depth(String method, int above) {
        int deepest = 0;
        if (above > DEEPEST) {
            return 1;
        }
        for (String called : CALLED.getOrDefault(method, Set.of())) {
            if (!called.equals(method)) {
                deepest = Math.max(deepest, depth(called, above + 1));
            }
        }
        return deepest + 1;
    }

    private static int countRings() {
        int rings = 0;
        for (String method : CALLED.keySet()) {
            Set<String> reached = new TreeSet<>(CALLED.get(method));
            for (int before = -1; before != reached.size();) {
                before = reached.size();
                for (String called : List.copyOf(reached)) {
                    reached.addAll(CALLED.getOrDefault(called, Set.of()));
                }
            }
            rings += reached.contains(method) ? 1 : 0;
        }
        return rings;
    }

    private static void scan(Path source) throws IOException {
        JavaCompiler compiler = ToolProvider.getSystemJavaCompiler();
        try (StandardJavaFileManager files = compiler.getStandardFileManager(null, null, null)) {
            JavacTask task = (JavacTask) compiler.getTask(null, files, null, List.of("-proc:none"), null,
                files.getJavaFileObjects(source));
            Iterable<? extends CompilationUnitTree> units = task.parse();
            task.analyze();
            Calls calls = new Calls(Trees.instance(task));
            for (CompilationUnitTree unit : units) {
                calls.scan(unit, null);
            }
        }
    }

    /** Notes for each method of each class what it calls; what stands in fields belongs to the constructor. */
    private static final class Calls extends TreePathScanner<Void, Void> {
        private final Trees trees;
        private String type;
        private String method;

        Calls(Trees trees) {
            this.trees = trees;
        }

        @Override
        public Void visitClass(ClassTree tree, Void nothing) {
            String outer = type;
            type = tree.getSimpleName().toString();
            method = type + ".<init>";
            CALLED.putIfAbsent(method, new TreeSet<>());
            super.visitClass(tree, nothing);
            type = outer;
            method = type + ".<init>";
            return null;
        }

        @Override
        public Void visitMethod(MethodTree tree, Void nothing) {
            method = type + "." + tree.getName();
            CALLED.putIfAbsent(method, new TreeSet<>());
            super.visitMethod(tree, nothing);
            method = type + ".<init>";
            return null;
        }

        @Override
        public Void visitMethodInvocation(MethodInvocationTree tree, Void nothing) {
            note(trees.getElement(getCurrentPath()));
            return super.visitMethodInvocation(tree, nothing);
        }

        @Override
        public Void visitNewClass(NewClassTree tree, Void nothing) {
            note(trees.getElement(getCurrentPath()));
            return super.visitNewClass(tree, nothing);
        }

        private void note(Element called) {
            CALLED.get(method).add(called.getEnclosingElement().getSimpleName() + "." + called.getSimpleName());
        }
    }
}
