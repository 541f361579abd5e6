import com.sun.source.tree.AssertTree;
import com.sun.source.tree.BlockTree;
import com.sun.source.tree.ClassTree;
import com.sun.source.tree.CompilationUnitTree;
import com.sun.source.tree.DoWhileLoopTree;
import com.sun.source.tree.ForLoopTree;
import com.sun.source.tree.LambdaExpressionTree;
import com.sun.source.tree.MemberReferenceTree;
import com.sun.source.tree.MethodInvocationTree;
import com.sun.source.tree.MethodTree;
import com.sun.source.tree.NewArrayTree;
import com.sun.source.tree.NewClassTree;
import com.sun.source.tree.SynchronizedTree;
import com.sun.source.tree.ThrowTree;
import com.sun.source.tree.Tree;
import com.sun.source.tree.TryTree;
import com.sun.source.tree.VariableTree;
import com.sun.source.tree.WhileLoopTree;
import com.sun.source.util.JavacTask;
import com.sun.source.util.TreePath;
import com.sun.source.util.TreePathScanner;
import com.sun.source.util.Trees;
import java.io.IOException;
import java.nio.file.Path;
import java.util.ArrayList;
import java.util.HashMap;
import java.util.HashSet;
import java.util.List;
import java.util.Map;
import java.util.Set;
import java.util.TreeSet;
import javax.lang.model.element.Element;
import javax.lang.model.element.ElementKind;
import javax.lang.model.element.Modifier;
import javax.tools.JavaCompiler;
import javax.tools.StandardJavaFileManager;
import javax.tools.ToolProvider;

/**
 * The program keeps to LANGUAGE.md as far as its syntax tells: each check names the rule. Rule 7, no
 * call throws or fails to end, is what the other tests show.
 */
public final class LanguageTest extends TreePathScanner<Void, Void> {
    private static final Path PROGRAM = Path.of("src/main/java/MarkupSieve.java");
    private static final Set<String> PUBLIC_METHODS = Set.of(
            "put", "wipe", "action", "attribute", "scheme", "reset", "clean", "output", "rounds", "nodes", "node",
            "text", "length", "value");
    private static final Set<String> LIBRARY = Set.of(
            "java.lang.Object.<init>", "java.lang.String.length", "java.lang.String.charAt");
    private static final Set<String> TYPES = Set.of(
            "int", "long", "char", "boolean", "String", "int[]", "long[]", "char[]", "boolean[]");
    private static final int MOST_PARAMETERS = 7, MOST_LINES = 60, MOST_CLASSES = 12, MOST_FIELDS = 20;
    private static final int MOST_DEEP = 8;

    private final CompilationUnitTree unit;
    private final Trees trees;
    private final Set<String> classes = new TreeSet<>();
    private final Map<Element, Set<Element>> calls = new HashMap<>();
    private final List<VariableTree> variables = new ArrayList<>();

    private LanguageTest(CompilationUnitTree unit, Trees trees) {
        this.unit = unit;
        this.trees = trees;
    }

    public static void main(String[] args) throws IOException {
        JavaCompiler compiler = ToolProvider.getSystemJavaCompiler();
        try (StandardJavaFileManager files = compiler.getStandardFileManager(null, null, null)) {
            JavacTask task = (JavacTask) compiler.getTask(
                    null, files, null, List.of("-proc:none"), null, files.getJavaFileObjects(PROGRAM));
            CompilationUnitTree unit = task.parse().iterator().next();
            task.analyze();
            LanguageTest test = new LanguageTest(unit, Trees.instance(task));
            test.scan(unit, null);
            test.wholeFile();
            test.types();
            test.depth();
        }
        Check.finish();
    }

    private void wholeFile() {
        Check.same("1: package line", unit.getPackage(), null);
        Check.same("4: imports", unit.getImports().size(), 0);
        Check.same("1: classes beside the program's", unit.getTypeDecls().size(), 1);
        Check.yes("11: classes " + classes, classes.size() <= MOST_CLASSES);
    }

    private void types() {
        for (VariableTree variable : variables) {
            String type = variable.getType().toString();
            Check.yes("3: type of " + variable, TYPES.contains(type) || classes.contains(type));
        }
    }

    /** Rule 8 and 11: the calls that stand open at once, the public one counted too. */
    private void depth() {
        Map<Element, Integer> depths = new HashMap<>();
        for (Element method : calls.keySet()) {
            int depth = depthOf(method, depths, new HashSet<>());
            Check.yes("11: " + method + " goes " + depth + " deep", depth <= MOST_DEEP);
        }
        Check.yes("methods were found", calls.size() > PUBLIC_METHODS.size());
    }

    private int depthOf(Element method, Map<Element, Integer> depths, Set<Element> above) {
        if (!calls.containsKey(method)) {
            return 0;
        }
        if (!above.add(method)) {
            Check.same("8: recursion", method, null);
            return 0;
        }
        int deepest = depths.getOrDefault(method, 0);
        if (deepest == 0) {
            for (Element called : calls.get(method)) {
                deepest = Math.max(deepest, depthOf(called, depths, above));
            }
            deepest++;
            depths.put(method, deepest);
        }
        above.remove(method);
        return deepest;
    }

    @Override
    public Void visitClass(ClassTree tree, Void none) {
        String name = tree.getSimpleName().toString();
        Set<Modifier> modifiers = tree.getModifiers().getFlags();
        boolean outer = name.equals("MarkupSieve");
        classes.add(name);
        Check.yes("2: kind of " + name, tree.getKind() == Tree.Kind.CLASS);
        if (outer) {
            Check.same("1: modifiers of the program", modifiers, Set.of(Modifier.PUBLIC, Modifier.FINAL));
        } else {
            Check.same("1: modifiers of " + name, modifiers, Set.of(Modifier.PRIVATE, Modifier.STATIC, Modifier.FINAL));
        }
        int fields = 0;
        for (Tree member : tree.getMembers()) {
            if (member instanceof VariableTree field) {
                fields += checkField(field, outer);
            }
            Check.no("5: static initialiser block", member instanceof BlockTree);
        }
        Check.yes("11: fields of " + name, fields <= MOST_FIELDS);
        return super.visitClass(tree, none);
    }

    /** Answers 1 if the field is no constant. */
    private static int checkField(VariableTree field, boolean outer) {
        Set<Modifier> modifiers = field.getModifiers().getFlags();
        boolean constant = modifiers.contains(Modifier.STATIC);
        if (constant) {
            Check.yes("5: final static field " + field, modifiers.contains(Modifier.FINAL));
            boolean known = Set.of("int", "char", "String").contains(field.getType().toString());
            Check.yes("5: type of the static field " + field, known);
        }
        boolean shown = outer && constant && modifiers.contains(Modifier.PUBLIC);
        Check.yes("1: private field " + field, shown || modifiers.contains(Modifier.PRIVATE));
        return constant ? 0 : 1;
    }

    @Override
    public Void visitMethod(MethodTree tree, Void none) {
        String name = tree.getName().toString();
        boolean isPrivate = tree.getModifiers().getFlags().contains(Modifier.PRIVATE);
        Check.no("1: private method " + name, isPrivate && PUBLIC_METHODS.contains(name));
        Check.yes("11: parameters of " + name, tree.getParameters().size() <= MOST_PARAMETERS);
        Check.yes("11: lines of " + name, lines(tree) <= MOST_LINES);
        Check.same("6: exceptions of " + name, tree.getThrows().size(), 0);
        calls.put(trees.getElement(getCurrentPath()), new HashSet<>());
        return super.visitMethod(tree, none);
    }

    private long lines(Tree tree) {
        long first = unit.getLineMap().getLineNumber(trees.getSourcePositions().getStartPosition(unit, tree));
        long last = unit.getLineMap().getLineNumber(trees.getSourcePositions().getEndPosition(unit, tree));
        return last - first + 1;
    }

    @Override
    public Void visitVariable(VariableTree tree, Void none) {
        variables.add(tree);
        return super.visitVariable(tree, none);
    }

    @Override
    public Void visitMethodInvocation(MethodInvocationTree tree, Void none) {
        Element called = trees.getElement(getCurrentPath());
        Element owner = called.getEnclosingElement();
        boolean own = owner.toString().startsWith("MarkupSieve");
        Check.yes("4: library " + owner + "." + called.getSimpleName(),
                own || LIBRARY.contains(owner + "." + called.getSimpleName()));
        noteCall(called);
        return super.visitMethodInvocation(tree, none);
    }

    private void noteCall(Element called) {
        Element caller = enclosing();
        if (caller != null) {
            calls.get(caller).add(called);
        }
    }

    /** The method that the tree at hand stands in. */
    private Element enclosing() {
        for (TreePath path = getCurrentPath(); path != null; path = path.getParentPath()) {
            if (path.getLeaf() instanceof MethodTree) {
                return trees.getElement(path);
            }
        }
        return null;
    }

    /** All that an object needs is made with it, so that no run of calls fills the room. */
    private void madeInConstructor(Tree tree) {
        Element method = enclosing();
        boolean constructor = method != null && method.getKind() == ElementKind.CONSTRUCTOR;
        Check.yes("12: made in a constructor: " + tree, constructor);
    }

    @Override
    public Void visitNewClass(NewClassTree tree, Void none) {
        madeInConstructor(tree);
        noteCall(trees.getElement(getCurrentPath()));
        Check.same("2: anonymous class", tree.getClassBody(), null);
        return super.visitNewClass(tree, none);
    }

    @Override
    public Void visitNewArray(NewArrayTree tree, Void none) {
        madeInConstructor(tree);
        return super.visitNewArray(tree, none);
    }

    @Override
    public Void visitForLoop(ForLoopTree tree, Void none) {
        Check.yes("9: end of " + tree, hasBound(tree.getCondition()) && !tree.getUpdate().isEmpty());
        return super.visitForLoop(tree, none);
    }

    @Override
    public Void visitWhileLoop(WhileLoopTree tree, Void none) {
        Check.yes("9: end of " + tree, hasBound(tree.getCondition()));
        return super.visitWhileLoop(tree, none);
    }

    @Override
    public Void visitDoWhileLoop(DoWhileLoopTree tree, Void none) {
        Check.yes("9: end of " + tree, hasBound(tree.getCondition()));
        return super.visitDoWhileLoop(tree, none);
    }

    /** Tells whether a counter is held against a bound; that it is counted must be read. */
    private static boolean hasBound(Tree condition) {
        return condition != null && condition.toString().matches("(?s).*[<>].*");
    }

    @Override
    public Void visitLambdaExpression(LambdaExpressionTree tree, Void none) {
        Check.same("2: lambda", tree, null);
        return super.visitLambdaExpression(tree, none);
    }

    @Override
    public Void visitMemberReference(MemberReferenceTree tree, Void none) {
        Check.same("2: method reference", tree, null);
        return super.visitMemberReference(tree, none);
    }

    @Override
    public Void visitThrow(ThrowTree tree, Void none) {
        Check.same("6: throw, of which the document says nothing", tree, null);
        return super.visitThrow(tree, none);
    }

    @Override
    public Void visitTry(TryTree tree, Void none) {
        Check.same("6: try, where nothing is thrown", tree, null);
        return super.visitTry(tree, none);
    }

    @Override
    public Void visitSynchronized(SynchronizedTree tree, Void none) {
        Check.same("6: synchronized", tree, null);
        return super.visitSynchronized(tree, none);
    }

    @Override
    public Void visitAssert(AssertTree tree, Void none) {
        Check.same("6: assert", tree, null);
        return super.visitAssert(tree, none);
    }
}
