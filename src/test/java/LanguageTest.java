import com.sun.source.tree.ClassTree;
import com.sun.source.tree.CompilationUnitTree;
import com.sun.source.tree.IdentifierTree;
import com.sun.source.tree.MemberSelectTree;
import com.sun.source.tree.MethodTree;
import com.sun.source.tree.Tree;
import com.sun.source.tree.VariableTree;
import com.sun.source.util.JavacTask;
import com.sun.source.util.TreeScanner;
import com.sun.source.util.Trees;
import java.io.File;
import java.nio.file.Files;
import java.util.EnumSet;
import java.util.HashSet;
import java.util.List;
import java.util.Set;
import java.util.TreeSet;
import javax.lang.model.element.Modifier;
import javax.tools.JavaCompiler;
import javax.tools.StandardJavaFileManager;
import javax.tools.ToolProvider;

/** The rules of LANGUAGE.md that a look at the source can tell; the source's path is the argument. */
public final class LanguageTest extends TreeScanner<Void, Void> {
    private static final int MOST_LINES = 60;
    private static final int MOST_PARAMETERS = 7;
    private static final int MOST_CLASSES = 12;
    private static final int MOST_FIELDS = 20;
    private static final Set<String> FACE = new TreeSet<>(List.of("feed", "end", "valley", "fault", "has", "letter", "cell",
        "person", "today", "dew", "up", "home", "way", "changed", "later", "purse", "dry", "see", "walkers", "tells", "days",
        "chance", "rise", "move", "weave", "undo", "seed", "kept", "image", "octet", "on", "status"));
    private static final Set<Tree.Kind> NEVER = EnumSet.of(Tree.Kind.THROW, Tree.Kind.TRY, Tree.Kind.CATCH,
        Tree.Kind.SYNCHRONIZED, Tree.Kind.ASSERT, Tree.Kind.LAMBDA_EXPRESSION, Tree.Kind.MEMBER_REFERENCE, Tree.Kind.IMPORT,
        Tree.Kind.ANNOTATION, Tree.Kind.SWITCH_EXPRESSION);
    private static final Set<String> LIBRARY = Set.of("Math", "System", "String");

    private final Trees trees;
    private final CompilationUnitTree unit;
    private final Set<String> open = new TreeSet<>();
    private int classes;

    private LanguageTest(Trees trees, CompilationUnitTree unit) {
        this.trees = trees;
        this.unit = unit;
    }

    public static void main(String[] args) throws Exception {
        File file = new File(args.length > 0 ? args[0] : "src/main/java/DewWages.java");
        for (char c : Files.readString(file.toPath()).toCharArray()) {
            if (c > 127) {
                Checks.is("a sign beyond 127", c, 127);
            }
        }
        JavaCompiler compiler = ToolProvider.getSystemJavaCompiler();
        StandardJavaFileManager files = compiler.getStandardFileManager(null, null, null);
        JavacTask task = (JavacTask) compiler.getTask(null, files, null, null, null, files.getJavaFileObjects(file));
        CompilationUnitTree unit = task.parse().iterator().next();
        LanguageTest test = new LanguageTest(Trees.instance(task), unit);
        test.scan(unit, null);
        Checks.is("no package", unit.getPackageName() == null, true);
        Checks.is("the face " + test.open, test.open.equals(FACE), true);
        Checks.is("some twelve classes, here " + test.classes, test.classes <= MOST_CLASSES, true);
        Checks.finish();
    }

    @Override
    public Void scan(Tree tree, Void v) {
        if (tree != null && NEVER.contains(tree.getKind())) {
            Checks.is("line " + line(tree) + ": " + tree.getKind(), 1, 0);
        }
        return super.scan(tree, v);
    }

    private long line(Tree tree) {
        return unit.getLineMap().getLineNumber(trees.getSourcePositions().getStartPosition(unit, tree));
    }

    private long lines(Tree tree) {
        return unit.getLineMap().getLineNumber(trees.getSourcePositions().getEndPosition(unit, tree)) - line(tree) + 1;
    }

    @Override
    public Void visitClass(ClassTree tree, Void v) {
        String name = tree.getSimpleName().toString();
        boolean outer = classes == 0;
        classes++;
        Set<Modifier> flags = tree.getModifiers().getFlags();
        Checks.is(name + " is static or the one class", outer || flags.contains(Modifier.STATIC), true);
        Checks.is(name + " is public as it should", outer == flags.contains(Modifier.PUBLIC), true);
        int fields = 0;
        Set<String> names = new HashSet<>();
        for (Tree member : tree.getMembers()) {
            if (member instanceof VariableTree) {
                VariableTree field = (VariableTree) member;
                Set<Modifier> of = field.getModifiers().getFlags();
                fields += of.contains(Modifier.STATIC) ? 0 : 1;
                Checks.is(name + "." + field.getName() + ": static is final",
                    !of.contains(Modifier.STATIC) || of.contains(Modifier.FINAL), true);
                boolean isNone = field.getName().contentEquals("NONE");
                Checks.is(name + "." + field.getName() + ": private in the one class",
                    !outer || isNone || of.contains(Modifier.PRIVATE), true);
            } else if (member instanceof MethodTree) {
                method(name, outer, (MethodTree) member);
                names.add(((MethodTree) member).getName().toString());
            }
        }
        Checks.is(name + ": some twenty fields, here " + fields, fields <= MOST_FIELDS, true);
        return super.visitClass(tree, v);
    }

    private void method(String className, boolean outer, MethodTree tree) {
        String name = tree.getName().toString();
        String what = className + "." + name;
        boolean isOpen = tree.getModifiers().getFlags().contains(Modifier.PUBLIC);
        boolean isNew = name.equals("<init>");
        if (isOpen && !isNew) {
            open.add(name);
        }
        Checks.is(what + " is public in the one class alone", isOpen && !outer, false);
        if (outer && !isOpen) {
            Checks.is(what + " is private", tree.getModifiers().getFlags().contains(Modifier.PRIVATE), true);
        }
        Checks.is(what + " bears no public one's name", !isOpen && FACE.contains(name), false);
        Checks.is(what + " has few parameters", tree.getParameters().size() <= MOST_PARAMETERS, true);
        Checks.is(what + " is short", lines(tree) <= MOST_LINES, true);
    }

    @Override
    public Void visitMemberSelect(MemberSelectTree tree, Void v) {
        if (tree.getExpression() instanceof IdentifierTree) {
            String name = ((IdentifierTree) tree.getExpression()).getName().toString();
            boolean isClass = Character.isUpperCase(name.charAt(0)) && !name.equals(name.toUpperCase());
            boolean own = List.of("Sum", "Plan", "Reader", "State", "Acts", "Walk", "Today", "Ways", "Ahead", "Walkers", "Image")
                .contains(name);
            Checks.is("line " + line(tree) + ": " + name + " is listed", !isClass || own || LIBRARY.contains(name), true);
        }
        return super.visitMemberSelect(tree, v);
    }
}
