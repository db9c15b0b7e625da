import com.sun.source.tree.ClassTree;
import com.sun.source.tree.CompilationUnitTree;
import com.sun.source.tree.MethodInvocationTree;
import com.sun.source.tree.MethodTree;
import com.sun.source.tree.NewClassTree;
import com.sun.source.tree.Tree;
import com.sun.source.util.JavacTask;
import com.sun.source.util.TreePathScanner;
import com.sun.source.util.Trees;
import java.io.File;
import java.util.HashMap;
import java.util.LinkedHashMap;
import java.util.Map;
import java.util.Set;
import java.util.TreeSet;
import javax.lang.model.element.Element;
import javax.lang.model.element.ElementKind;
import javax.lang.model.element.Modifier;
import javax.tools.JavaCompiler;
import javax.tools.StandardJavaFileManager;
import javax.tools.ToolProvider;

/** LANGUAGE.md's rules 4, 8 and 11 on calls: which of the library, which recursion, how deep. The path is the argument. */
public final class CallsTest extends TreePathScanner<Void, Void> {
    private static final int DEEPEST = 8;
    private static final Set<String> LIBRARY = Set.of("Math.min", "Math.max", "Math.abs", "Math.floorDiv", "Math.floorMod",
        "System.arraycopy", "String.length", "String.charAt", "String.indexOf", "Object.<init>");

    private final Trees trees;
    private final Map<String, Set<String>> calls = new LinkedHashMap<>();
    private final Set<String> hidden = new TreeSet<>();
    private final Map<String, Integer> deep = new HashMap<>();
    private String now = "";

    private CallsTest(Trees trees) {
        this.trees = trees;
    }

    public static void main(String[] args) throws Exception {
        File file = new File(args.length > 0 ? args[0] : "src/main/java/DewWages.java");
        JavaCompiler compiler = ToolProvider.getSystemJavaCompiler();
        StandardJavaFileManager files = compiler.getStandardFileManager(null, null, null);
        JavacTask task = (JavacTask) compiler.getTask(null, files, null, null, null, files.getJavaFileObjects(file));
        CompilationUnitTree unit = task.parse().iterator().next();
        task.analyze();
        CallsTest test = new CallsTest(Trees.instance(task));
        test.scan(unit, null);
        test.libraryAsListed();
        test.recursionIsPrivate();
        test.othersAreNotDeep();
        Checks.finish();
    }

    // ---- who calls whom

    private static String name(Element method) {
        return method.getEnclosingElement().getSimpleName() + "." + method.getSimpleName();
    }

    @Override
    public Void visitClass(ClassTree tree, Void v) {
        String outer = now;
        now = tree.getSimpleName() + ".<init>";
        calls.computeIfAbsent(now, n -> new TreeSet<>());
        super.visitClass(tree, v);
        now = outer;
        return null;
    }

    @Override
    public Void visitMethod(MethodTree tree, Void v) {
        String outer = now;
        Element method = trees.getElement(getCurrentPath());
        now = name(method);
        calls.computeIfAbsent(now, n -> new TreeSet<>());
        if (method.getModifiers().contains(Modifier.PRIVATE)) {
            hidden.add(now);
        }
        super.visitMethod(tree, v);
        now = outer;
        return null;
    }

    @Override
    public Void visitMethodInvocation(MethodInvocationTree tree, Void v) {
        add(tree);
        return super.visitMethodInvocation(tree, v);
    }

    @Override
    public Void visitNewClass(NewClassTree tree, Void v) {
        add(tree);
        return super.visitNewClass(tree, v);
    }

    private void add(Tree tree) {
        Element called = trees.getElement(getCurrentPath());
        Checks.is(tree + " is known", called != null, true);
        if (called != null && (called.getKind() == ElementKind.METHOD || called.getKind() == ElementKind.CONSTRUCTOR)) {
            calls.computeIfAbsent(now, n -> new TreeSet<>()).add(name(called));
        }
    }

    // ---- the rules

    private void libraryAsListed() {
        for (Map.Entry<String, Set<String>> entry : calls.entrySet()) {
            for (String called : entry.getValue()) {
                boolean listed = calls.containsKey(called) || LIBRARY.contains(called);
                Checks.is(entry.getKey() + " calls " + called + ", which is its own or listed", listed, true);
            }
        }
    }

    private Set<String> reach(String from) {
        Set<String> seen = new TreeSet<>();
        walk(from, seen);
        return seen;
    }

    private void walk(String from, Set<String> seen) {
        for (String to : calls.getOrDefault(from, Set.of())) {
            if (seen.add(to)) {
                walk(to, seen);
            }
        }
    }

    private boolean isRecursive(String method) {
        return reach(method).contains(method);
    }

    private void recursionIsPrivate() {
        for (String method : calls.keySet()) {
            if (isRecursive(method)) {
                boolean known = method.startsWith("Reader.read") || method.startsWith("Ways.");
                Checks.is(method + " calls itself and is private", hidden.contains(method), true);
                Checks.is(method + " reads SUMS or looks for WAYS", known, true);
            }
        }
    }

    /** Of a group that calls one another the whole counts as one call. */
    private void othersAreNotDeep() {
        for (String method : calls.keySet()) {
            int depth = depth(method);
            Checks.is(method + " goes " + depth + " deep", depth <= DEEPEST, true);
        }
    }

    private int depth(String method) {
        Integer known = deep.get(method);
        if (known != null) {
            return known;
        }
        Set<String> group = new TreeSet<>(Set.of(method));
        for (String other : reach(method)) {
            if (reach(other).contains(method)) {
                group.add(other);
            }
        }
        int most = 0;
        for (String one : group) {
            for (String called : calls.getOrDefault(one, Set.of())) {
                boolean isOwn = calls.containsKey(called) && !group.contains(called);
                most = Math.max(most, isOwn ? depth(called) : 0);
            }
        }
        for (String one : group) {
            deep.put(one, most + 1);
        }
        return most + 1;
    }
}
