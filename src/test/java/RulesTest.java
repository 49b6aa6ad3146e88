import com.sun.source.tree.ArrayAccessTree;
import com.sun.source.tree.BinaryTree;
import com.sun.source.tree.BlockTree;
import com.sun.source.tree.ClassTree;
import com.sun.source.tree.CompilationUnitTree;
import com.sun.source.tree.DoWhileLoopTree;
import com.sun.source.tree.ForLoopTree;
import com.sun.source.tree.ImportTree;
import com.sun.source.tree.MethodInvocationTree;
import com.sun.source.tree.MethodTree;
import com.sun.source.tree.NewArrayTree;
import com.sun.source.tree.NewClassTree;
import com.sun.source.tree.Tree;
import com.sun.source.tree.VariableTree;
import com.sun.source.tree.WhileLoopTree;
import com.sun.source.util.JavacTask;
import com.sun.source.util.TreePath;
import com.sun.source.util.TreePathScanner;
import com.sun.source.util.Trees;
import java.io.IOException;
import java.nio.file.Path;
import java.util.HashSet;
import java.util.List;
import java.util.Map;
import java.util.Set;
import java.util.TreeMap;
import java.util.TreeSet;
import javax.lang.model.element.Element;
import javax.lang.model.element.ElementKind;
import javax.lang.model.element.Modifier;
import javax.lang.model.element.VariableElement;
import javax.tools.JavaCompiler;
import javax.tools.StandardJavaFileManager;
import javax.tools.ToolProvider;

/** The rules of LANGUAGE.md, looked up in the source with the compiler's own trees. */
final class RulesTest extends TreePathScanner<Void, Void> {
    private static final Set<Tree.Kind> FORBIDDEN = Set.of(Tree.Kind.THROW, Tree.Kind.TRY,
            Tree.Kind.CATCH, Tree.Kind.SYNCHRONIZED, Tree.Kind.ASSERT, Tree.Kind.LAMBDA_EXPRESSION,
            Tree.Kind.MEMBER_REFERENCE, Tree.Kind.TYPE_CAST, Tree.Kind.DIVIDE, Tree.Kind.REMAINDER,
            Tree.Kind.DIVIDE_ASSIGNMENT, Tree.Kind.REMAINDER_ASSIGNMENT, Tree.Kind.ANNOTATION);
    private static final Set<String> LIBRARY = Set.of("java.lang.Math.min", "java.lang.Math.max",
            "java.lang.Object.<init>");
    private static final Set<String> TYPES = Set.of("int", "boolean", "int[]");

    private final Trees trees;
    private final Map<String, Set<String>> calls = new TreeMap<>();
    private final Set<String> publicMethods = new TreeSet<>();
    private int classes = 0;

    private RulesTest(Trees trees) {
        this.trees = trees;
    }

    public static void main(String[] args) throws IOException {
        JavaCompiler compiler = ToolProvider.getSystemJavaCompiler();
        StandardJavaFileManager files = compiler.getStandardFileManager(null, null, null);
        JavacTask task = (JavacTask) compiler.getTask(null, files, null, List.of("-proc:none"), null,
                files.getJavaFileObjects(Path.of("src/main/java/ClauseDrafts.java")));
        Iterable<? extends CompilationUnitTree> units = task.parse();
        task.analyze();
        RulesTest rules = new RulesTest(Trees.instance(task));
        rules.scan(units, null);
        Check.holds("rule 11: some twelve classes, " + rules.classes, rules.classes <= 12);
        Check.due("rule 1: the public methods", 33, rules.publicMethods.size());
        Check.holds("the calls were seen", rules.depth("ClauseDrafts.text()", new HashSet<>()) > 4
                && rules.depth("ClauseDrafts.ClauseDrafts()", new HashSet<>()) > 4);
        for (String method : rules.calls.keySet()) {
            int depth = rules.depth(method, new HashSet<>());
            Check.holds("rule 8: no recursion here: " + method, depth < 99);
            Check.holds("rule 11: calls go at most eight deep: " + method + " " + depth, depth <= 8);
        }
        Check.finish();
    }

    /** How many methods stand open at once below this one, itself counted; 99 if it calls itself. */
    private int depth(String method, Set<String> open) {
        if (!open.add(method)) {
            return 99;
        }
        int deepest = 0;
        for (String called : calls.getOrDefault(method, Set.of())) {
            deepest = Math.max(deepest, depth(called, open));
        }
        open.remove(method);
        return Math.min(99, deepest + 1);
    }

    private static String name(Element element) {
        return element.getEnclosingElement() + "." + element;
    }

    private boolean isOurs(Element element) {
        Element outer = element;
        while (outer != null && outer.getKind() != ElementKind.PACKAGE) {
            if (outer.toString().equals("ClauseDrafts")) {
                return true;
            }
            outer = outer.getEnclosingElement();
        }
        return false;
    }

    /** The method or constructor around the present place; null in the initialiser of a field. */
    private MethodTree method() {
        for (TreePath path = getCurrentPath(); path != null; path = path.getParentPath()) {
            if (path.getLeaf() instanceof MethodTree found) {
                return found;
            }
        }
        return null;
    }

    private String className() {
        for (TreePath path = getCurrentPath(); path != null; path = path.getParentPath()) {
            if (path.getLeaf() instanceof ClassTree found) {
                return found.getSimpleName().toString();
            }
        }
        return "";
    }

    @Override
    public Void scan(Tree tree, Void none) {
        if (tree != null) {
            Check.holds("rules 2, 6 and 7: no " + tree.getKind() + " in " + shortly(tree),
                    !FORBIDDEN.contains(tree.getKind()));
        }
        return super.scan(tree, none);
    }

    private static String shortly(Tree tree) {
        String text = String.valueOf(tree).replaceAll("\\s+", " ");
        return text.length() > 60 ? text.substring(0, 60) + ".." : text;
    }

    @Override
    public Void visitImport(ImportTree tree, Void none) {
        Check.holds("rule 4: no " + shortly(tree), false);
        return super.visitImport(tree, none);
    }

    @Override
    public Void visitClass(ClassTree tree, Void none) {
        classes++;
        int fields = 0;
        for (Tree member : tree.getMembers()) {
            Check.holds("rule 5: no block for statics in " + tree.getSimpleName(),
                    !(member instanceof BlockTree));
            boolean isField = member instanceof VariableTree;
            boolean isStatic = isField
                    && ((VariableTree) member).getModifiers().getFlags().contains(Modifier.STATIC);
            fields += isField && !isStatic ? 1 : 0;
        }
        Check.holds("rule 11: some twenty fields in " + tree.getSimpleName(), fields <= 20);
        boolean isTop = getCurrentPath().getParentPath().getLeaf() instanceof CompilationUnitTree;
        boolean isInside = getCurrentPath().getParentPath().getLeaf() instanceof ClassTree;
        Set<Modifier> flags = tree.getModifiers().getFlags();
        Check.holds("rule 2: " + tree.getSimpleName() + " is the class or static inside it",
                isTop && flags.contains(Modifier.PUBLIC) && flags.contains(Modifier.FINAL)
                || isInside && flags.contains(Modifier.STATIC) && !flags.contains(Modifier.PUBLIC));
        return super.visitClass(tree, none);
    }

    @Override
    public Void visitVariable(VariableTree tree, Void none) {
        Element element = trees.getElement(getCurrentPath());
        String type = element.asType().toString();
        Check.holds("rule 3: the type of " + tree.getName() + ", " + type,
                TYPES.contains(type) || type.startsWith("ClauseDrafts."));
        if (element.getModifiers().contains(Modifier.STATIC)) {
            Check.holds("rule 5: " + tree.getName() + " is a constant",
                    ((VariableElement) element).getConstantValue() != null);
        }
        return super.visitVariable(tree, none);
    }

    @Override
    public Void visitMethod(MethodTree tree, Void none) {
        Element element = trees.getElement(getCurrentPath());
        calls.computeIfAbsent(name(element), key -> new TreeSet<>());
        boolean isMethod = element.getKind() == ElementKind.METHOD;
        if (isMethod && element.getModifiers().contains(Modifier.PUBLIC)) {
            publicMethods.add(name(element));
        }
        Check.holds("rule 11: at most seven parameters of " + tree.getName(),
                tree.getParameters().size() <= 7);
        CompilationUnitTree unit = getCurrentPath().getCompilationUnit();
        long begin = trees.getSourcePositions().getStartPosition(unit, tree);
        long end = trees.getSourcePositions().getEndPosition(unit, tree);
        // the compiler's own constructors have no end
        long lines = end < 0 ? 0
                : unit.getLineMap().getLineNumber(end) - unit.getLineMap().getLineNumber(begin) + 1;
        Check.holds("rule 11: some sixty lines of " + tree.getName() + ", " + lines, lines <= 60);
        return super.visitMethod(tree, none);
    }

    /** The library's methods count too, and what a field's initialiser calls the constructor calls. */
    private void noteCall(Element called) {
        if (!isOurs(called)) {
            String library = called.getEnclosingElement() + "." + called.getSimpleName();
            Check.holds("rule 4: the library's " + library, LIBRARY.contains(library));
        }
        for (String caller : callers()) {
            calls.computeIfAbsent(caller, key -> new TreeSet<>()).add(name(called));
        }
    }

    private List<String> callers() {
        CompilationUnitTree unit = getCurrentPath().getCompilationUnit();
        MethodTree caller = method();
        if (caller != null) {
            return List.of(name(trees.getElement(trees.getPath(unit, caller))));
        }
        TreePath path = getCurrentPath();
        while (!(path.getLeaf() instanceof ClassTree)) {
            path = path.getParentPath();
        }
        return trees.getElement(path).getEnclosedElements().stream()
                .filter(member -> member.getKind() == ElementKind.CONSTRUCTOR)
                .map(RulesTest::name).toList();
    }

    @Override
    public Void visitMethodInvocation(MethodInvocationTree tree, Void none) {
        noteCall(trees.getElement(getCurrentPath()));
        return super.visitMethodInvocation(tree, none);
    }

    private boolean isInConstructor() {
        return method() == null || method().getName().contentEquals("<init>");
    }

    @Override
    public Void visitNewClass(NewClassTree tree, Void none) {
        noteCall(trees.getElement(getCurrentPath()));
        Check.holds("rule 12: made with the object alone: " + shortly(tree), isInConstructor());
        Check.holds("rule 2: no class without a name", tree.getClassBody() == null);
        return super.visitNewClass(tree, none);
    }

    @Override
    public Void visitNewArray(NewArrayTree tree, Void none) {
        Check.holds("rule 12: made with the object alone: " + shortly(tree), isInConstructor());
        return super.visitNewArray(tree, none);
    }

    @Override
    public Void visitArrayAccess(ArrayAccessTree tree, Void none) {
        Check.holds("rule 7: only lines and tables use an index, and look at it: " + shortly(tree),
                className().equals("Line") || className().equals("Table"));
        return super.visitArrayAccess(tree, none);
    }

    @Override
    public Void visitForLoop(ForLoopTree tree, Void none) {
        boolean isCounted = tree.getCondition() instanceof BinaryTree && tree.getUpdate().size() == 1;
        Check.holds("rule 9: a counter against a bound: " + shortly(tree), isCounted);
        return super.visitForLoop(tree, none);
    }

    @Override
    public Void visitWhileLoop(WhileLoopTree tree, Void none) {
        String text = String.valueOf(tree.getCondition());
        Check.holds("rule 9: a counter against a bound: " + text, text.contains(" < "));
        return super.visitWhileLoop(tree, none);
    }

    @Override
    public Void visitDoWhileLoop(DoWhileLoopTree tree, Void none) {
        Check.holds("rule 9: no do: " + shortly(tree), false);
        return super.visitDoWhileLoop(tree, none);
    }
}
