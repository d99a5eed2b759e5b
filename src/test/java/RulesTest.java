import com.sun.source.tree.AssignmentTree;
import com.sun.source.tree.BinaryTree;
import com.sun.source.tree.ClassTree;
import com.sun.source.tree.CompilationUnitTree;
import com.sun.source.tree.DoWhileLoopTree;
import com.sun.source.tree.EnhancedForLoopTree;
import com.sun.source.tree.ExpressionTree;
import com.sun.source.tree.ForLoopTree;
import com.sun.source.tree.MethodInvocationTree;
import com.sun.source.tree.MethodTree;
import com.sun.source.tree.NewArrayTree;
import com.sun.source.tree.NewClassTree;
import com.sun.source.tree.Tree;
import com.sun.source.tree.VariableTree;
import com.sun.source.tree.WhileLoopTree;
import com.sun.source.util.JavacTask;
import com.sun.source.util.SourcePositions;
import com.sun.source.util.TreePath;
import com.sun.source.util.TreePathScanner;
import com.sun.source.util.Trees;
import java.io.IOException;
import java.nio.file.Path;
import java.util.ArrayList;
import java.util.HashSet;
import java.util.LinkedHashMap;
import java.util.List;
import java.util.Map;
import java.util.Set;
import javax.lang.model.element.Element;
import javax.lang.model.element.ElementKind;
import javax.lang.model.element.ExecutableElement;
import javax.lang.model.element.Modifier;
import javax.tools.JavaCompiler;
import javax.tools.StandardJavaFileManager;
import javax.tools.ToolProvider;

/** The rules of ../shared/LANGUAGE.md that can be counted, looked at in the tree that javac makes. */
public final class RulesTest extends TreePathScanner<Void, Void> {
    private static final Set<String> LIBRARY = Set.of("java.lang.Math.min", "java.lang.Math.max");
    private static final Set<String> TYPES = Set.of("int", "long", "boolean", "int[]", "long[]");
    private static final Set<Tree.Kind> BOUNDS = Set.of(
            Tree.Kind.LESS_THAN, Tree.Kind.LESS_THAN_EQUAL, Tree.Kind.GREATER_THAN, Tree.Kind.GREATER_THAN_EQUAL);

    private final Trees trees;
    private final CompilationUnitTree unit;
    private final Map<ExecutableElement, Set<ExecutableElement>> calls = new LinkedHashMap<>();
    private final Set<String> own = new HashSet<>();
    private final List<String> publicNames = new ArrayList<>();
    private final List<String> otherNames = new ArrayList<>();
    private ExecutableElement method = null;
    private int classes = 0;
    private int loops = 0;

    private RulesTest(Trees trees, CompilationUnitTree unit) {
        this.trees = trees;
        this.unit = unit;
    }

    public static void main(String[] args) throws IOException {
        JavaCompiler compiler = ToolProvider.getSystemJavaCompiler();
        try (StandardJavaFileManager files = compiler.getStandardFileManager(null, null, null)) {
            var sources = files.getJavaFileObjects(Path.of(System.getProperty("source")));
            JavacTask task = (JavacTask) compiler.getTask(null, files, null, List.of("-proc:none"), null, sources);
            CompilationUnitTree unit = task.parse().iterator().next();
            task.analyze();
            RulesTest test = new RulesTest(Trees.instance(task), unit);
            test.noteClasses();
            test.scan(unit, null);
            test.lookAtNames();
            test.lookAtCalls();
        }
        Due.end();
    }

    private void noteClasses() {
        new TreePathScanner<Void, Void>() {
            @Override
            public Void visitClass(ClassTree tree, Void nothing) {
                own.add(tree.getSimpleName().toString());
                return super.visitClass(tree, nothing);
            }
        }.scan(unit, null);
    }

    private Element elementHere() {
        return trees.getElement(getCurrentPath());
    }

    /** Rules 1, 2 and 11: nested classes are static and not public; twelve of them, with twenty fields. */
    @Override
    public Void visitClass(ClassTree tree, Void nothing) {
        classes++;
        Due.is("class " + classes + " of twelve", classes <= 12, true);
        Set<Modifier> modifiers = tree.getModifiers().getFlags();
        boolean outer = getCurrentPath().getParentPath().getLeaf() == unit;
        String name = "class " + tree.getSimpleName();
        Due.is(name + " is public", modifiers.contains(Modifier.PUBLIC), outer);
        Due.is(name + " is static", modifiers.contains(Modifier.STATIC), !outer);
        Due.is(name + " is a member", outer || getCurrentPath().getParentPath().getLeaf() instanceof ClassTree, true);
        int fields = 0;
        for (Tree member : tree.getMembers()) {
            boolean isField = member instanceof VariableTree;
            fields += isField && !isStatic((VariableTree) member) ? 1 : 0;
            Due.is(name + " has a block of its own", member.getKind() == Tree.Kind.BLOCK, false);
        }
        Due.is(name + " has " + fields + " fields", fields <= 20, true);
        return super.visitClass(tree, nothing);
    }

    private static boolean isStatic(VariableTree tree) {
        return tree.getModifiers().getFlags().contains(Modifier.STATIC);
    }

    /** Rules 3 and 5: types, and static fields that are constants. */
    @Override
    public Void visitVariable(VariableTree tree, Void nothing) {
        String type = tree.getType().toString();
        boolean known = TYPES.contains(type) || own.contains(type.replace("[]", ""));
        Due.is(tree.getName() + " is of type " + type, known, true);
        if (isStatic(tree)) {
            Due.is(tree.getName() + " is final", tree.getModifiers().getFlags().contains(Modifier.FINAL), true);
            Due.is(tree.getName() + " is a constant", type.equals("int") || type.equals("long"), true);
        }
        return super.visitVariable(tree, nothing);
    }

    /** Rule 11: seven parameters, sixty lines. */
    @Override
    public Void visitMethod(MethodTree tree, Void nothing) {
        method = (ExecutableElement) elementHere();
        calls.put(method, new HashSet<>());
        String name = method.getEnclosingElement().getSimpleName() + "." + method;
        Due.is(name + " has few parameters", tree.getParameters().size() <= 7, true);
        Due.is(name + " is short", linesOf(tree) <= 60, true);
        if (method.getKind() == ElementKind.METHOD) {
            boolean isPublic = method.getModifiers().contains(Modifier.PUBLIC);
            (isPublic ? publicNames : otherNames).add(method.getSimpleName().toString());
        }
        super.visitMethod(tree, nothing);
        method = null;
        return null;
    }

    private long linesOf(Tree tree) {
        SourcePositions positions = trees.getSourcePositions();
        long first = unit.getLineMap().getLineNumber(positions.getStartPosition(unit, tree));
        long last = unit.getLineMap().getLineNumber(Math.max(0, positions.getEndPosition(unit, tree)));
        return last - first + 1;
    }

    /** Rule 4: of the library only what it lists by name. */
    @Override
    public Void visitMethodInvocation(MethodInvocationTree tree, Void nothing) {
        ExecutableElement called = (ExecutableElement) trees.getElement(new TreePath(getCurrentPath(), tree.getMethodSelect()));
        String owner = called.getEnclosingElement().toString();
        boolean isOwn = own.contains(called.getEnclosingElement().getSimpleName().toString());
        // The call of Object's constructor that javac writes itself.
        boolean isSuper = called.getKind() == ElementKind.CONSTRUCTOR;
        String name = owner + "." + called.getSimpleName();
        Due.is("a call of " + name, isOwn || isSuper || LIBRARY.contains(name), true);
        if (isOwn && method != null) {
            calls.get(method).add(called);
        }
        return super.visitMethodInvocation(tree, nothing);
    }

    /** "no call makes an object": all rows are made with the object. */
    @Override
    public Void visitNewClass(NewClassTree tree, Void nothing) {
        dueInConstructor(tree.toString());
        return super.visitNewClass(tree, nothing);
    }

    @Override
    public Void visitNewArray(NewArrayTree tree, Void nothing) {
        dueInConstructor(tree.toString());
        return super.visitNewArray(tree, nothing);
    }

    private void dueInConstructor(String text) {
        boolean inConstructor = method == null || method.getKind() == ElementKind.CONSTRUCTOR;
        Due.is(text + " is made in a constructor", inConstructor, true);
    }

    /** Rule 9: a counter against a bound. */
    @Override
    public Void visitWhileLoop(WhileLoopTree tree, Void nothing) {
        dueBound(tree.getCondition());
        return super.visitWhileLoop(tree, nothing);
    }

    @Override
    public Void visitForLoop(ForLoopTree tree, Void nothing) {
        dueBound(tree.getCondition());
        return super.visitForLoop(tree, nothing);
    }

    @Override
    public Void visitDoWhileLoop(DoWhileLoopTree tree, Void nothing) {
        dueBound(tree.getCondition());
        return super.visitDoWhileLoop(tree, nothing);
    }

    @Override
    public Void visitEnhancedForLoop(EnhancedForLoopTree tree, Void nothing) {
        loops++;
        return super.visitEnhancedForLoop(tree, nothing);
    }

    private void dueBound(ExpressionTree condition) {
        loops++;
        boolean[] found = {false};
        new TreePathScanner<Void, Void>() {
            @Override
            public Void visitBinary(BinaryTree tree, Void nothing) {
                found[0] |= BOUNDS.contains(tree.getKind());
                return super.visitBinary(tree, nothing);
            }

            @Override
            public Void visitAssignment(AssignmentTree tree, Void nothing) {
                Due.is("an assignment in " + condition, true, false);
                return super.visitAssignment(tree, nothing);
            }
        }.scan(new TreePath(getCurrentPath(), condition), null);
        Due.is("loop " + loops + " has a bound in " + condition, found[0], true);
    }

    /** Rule 1: "No private method bears the name of a public one." */
    private void lookAtNames() {
        for (String name : otherNames) {
            Due.is("a hidden " + name, publicNames.contains(name), false);
        }
        Due.is("public methods", publicNames.size(), 22);
    }

    /** Rules 8 and 11: methods that come back to themselves are private; the others go eight deep. */
    private void lookAtCalls() {
        for (ExecutableElement from : calls.keySet()) {
            if (reached(from).contains(from)) {
                Due.is(from + " calls itself and is private", from.getModifiers().contains(Modifier.PRIVATE), true);
            }
        }
        for (ExecutableElement from : calls.keySet()) {
            if (from.getModifiers().contains(Modifier.PUBLIC)) {
                int depth = deepest(from, new HashSet<>());
                Due.is(from + " goes " + depth + " deep", depth <= 8, true);
            }
        }
    }

    private Set<ExecutableElement> reached(ExecutableElement from) {
        Set<ExecutableElement> seen = new HashSet<>();
        List<ExecutableElement> open = new ArrayList<>(calls.getOrDefault(from, Set.of()));
        while (!open.isEmpty()) {
            ExecutableElement next = open.remove(open.size() - 1);
            if (seen.add(next)) {
                open.addAll(calls.getOrDefault(next, Set.of()));
            }
        }
        return seen;
    }

    /** The longest chain of calls in which no method stands twice. */
    private int deepest(ExecutableElement from, Set<ExecutableElement> chain) {
        if (!chain.add(from)) {
            return 0;
        }
        int most = 0;
        for (ExecutableElement next : calls.getOrDefault(from, Set.of())) {
            most = Math.max(most, deepest(next, chain));
        }
        chain.remove(from);
        return most + 1;
    }
}
