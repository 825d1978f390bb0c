import com.sun.source.tree.ClassTree;
import com.sun.source.tree.CompilationUnitTree;
import com.sun.source.tree.MethodInvocationTree;
import com.sun.source.tree.MethodTree;
import com.sun.source.tree.NewClassTree;
import com.sun.source.tree.VariableTree;
import com.sun.source.util.JavacTask;
import com.sun.source.util.TreePathScanner;
import com.sun.source.util.Trees;
import java.nio.file.Path;
import java.util.ArrayList;
import java.util.HashMap;
import java.util.HashSet;
import java.util.LinkedHashMap;
import java.util.LinkedHashSet;
import java.util.List;
import java.util.Map;
import java.util.Set;
import javax.lang.model.element.Element;
import javax.tools.JavaCompiler;
import javax.tools.StandardJavaFileManager;
import javax.tools.ToolProvider;

/**
 * How deep calls go, read off the source by the compiler (rules 8 and 11 of LANGUAGE.md): calls
 * that are no recursion at most eight deep, those of the library counted too, and no method in a
 * recursion but those that carry their depth.
 */
public final class CallDepthTests {
    private static final int MOST_DEPTH = 8;
    private static final Set<String> RECURSIVE = Set.of("Row.addFirstTree", "Census.write",
            "Census.writeParts", "Census.ahead");
    private static final Map<String, Set<String>> calls = new LinkedHashMap<>();
    private static final Map<String, List<String>> deepest = new HashMap<>();
    private static int wrong = 0;

    public static void main(String[] args) throws Exception {
        Path root = Path.of(args.length > 0 ? args[0] : ".");
        readCalls(root.resolve("src/main/java/TreeTongues.java"));
        if (calls.size() < 60) {
            fault("only " + calls.size() + " methods were found");
        }
        Set<String> recursive = new LinkedHashSet<>();
        for (String method : calls.keySet()) {
            if (reaches(method, method, new HashSet<>())) {
                recursive.add(method);
            }
        }
        if (!recursive.equals(RECURSIVE)) {
            fault("recursive are " + recursive);
        }
        List<String> chain = List.of();
        for (String method : calls.keySet()) {
            chain = longer(chain, deepestFrom(method));
        }
        System.out.println("the deepest calls: " + chain);
        if (chain.size() > MOST_DEPTH) {
            fault("calls go " + chain.size() + " deep");
        }
        if (wrong != 0) {
            System.exit(1);
        }
    }

    private static void fault(String what) {
        wrong++;
        System.out.println(what);
    }

    private static void readCalls(Path source) throws Exception {
        JavaCompiler compiler = ToolProvider.getSystemJavaCompiler();
        try (StandardJavaFileManager files = compiler.getStandardFileManager(null, null, null)) {
            JavacTask task = (JavacTask) compiler.getTask(null, files, null, null, null,
                    files.getJavaFileObjects(source));
            Iterable<? extends CompilationUnitTree> units = task.parse();
            task.analyze();
            Trees trees = Trees.instance(task);
            for (CompilationUnitTree unit : units) {
                new Reader(trees).scan(unit, null);
            }
        }
    }

    private static final class Reader extends TreePathScanner<Void, Void> {
        private final Trees trees;
        private Set<String> found = new LinkedHashSet<>();

        Reader(Trees trees) {
            this.trees = trees;
        }

        private static String nameOf(Element method) {
            return method.getEnclosingElement().getSimpleName() + "." + method.getSimpleName();
        }

        private static Set<String> callsOf(String method) {
            return calls.computeIfAbsent(method, n -> new LinkedHashSet<>());
        }

        private void add() {
            Element called = trees.getElement(getCurrentPath());
            if (called != null) {
                found.add(nameOf(called));
            }
        }

        @Override
        public Void visitMethod(MethodTree method, Void none) {
            found = callsOf(nameOf(trees.getElement(getCurrentPath())));
            return super.visitMethod(method, none);
        }

        /** What a field begins with is made by the constructor. */
        @Override
        public Void visitVariable(VariableTree variable, Void none) {
            if (getCurrentPath().getParentPath().getLeaf() instanceof ClassTree) {
                Element field = trees.getElement(getCurrentPath());
                found = callsOf(field.getEnclosingElement().getSimpleName() + ".<init>");
            }
            return super.visitVariable(variable, none);
        }

        @Override
        public Void visitMethodInvocation(MethodInvocationTree call, Void none) {
            add();
            return super.visitMethodInvocation(call, none);
        }

        @Override
        public Void visitNewClass(NewClassTree call, Void none) {
            add();
            return super.visitNewClass(call, none);
        }
    }

    private static boolean reaches(String from, String to, Set<String> been) {
        for (String next : calls.getOrDefault(from, Set.of())) {
            if (next.equals(to) || been.add(next) && reaches(next, to, been)) {
                return true;
            }
        }
        return false;
    }

    private static List<String> longer(List<String> one, List<String> other) {
        return other.size() > one.size() ? other : one;
    }

    /** The longest chain of calls, methods that call each other in turn counting once each. */
    private static List<String> deepestFrom(String method) {
        if (deepest.containsKey(method)) {
            return deepest.get(method);
        }
        List<String> chain = List.of();
        for (String next : calls.getOrDefault(method, Set.of())) {
            if (!next.equals(method)) {
                boolean isTurn = reaches(next, method, new HashSet<>());
                chain = longer(chain, isTurn ? deepestBeside(next, method) : deepestFrom(next));
            }
        }
        List<String> whole = new ArrayList<>(List.of(method));
        whole.addAll(chain);
        deepest.put(method, whole);
        return whole;
    }

    /** From a method that shares a recursion with another, by calls that leave the recursion. */
    private static List<String> deepestBeside(String method, String other) {
        List<String> chain = List.of();
        for (String next : calls.get(method)) {
            if (!reaches(next, other, new HashSet<>())) {
                chain = longer(chain, deepestFrom(next));
            }
        }
        List<String> whole = new ArrayList<>(List.of(method));
        whole.addAll(chain);
        return whole;
    }
}
