import com.sun.source.tree.AssertTree;
import com.sun.source.tree.BlockTree;
import com.sun.source.tree.ClassTree;
import com.sun.source.tree.CompilationUnitTree;
import com.sun.source.tree.ExpressionTree;
import com.sun.source.tree.LambdaExpressionTree;
import com.sun.source.tree.LiteralTree;
import com.sun.source.tree.MemberReferenceTree;
import com.sun.source.tree.MethodInvocationTree;
import com.sun.source.tree.MethodTree;
import com.sun.source.tree.NewArrayTree;
import com.sun.source.tree.NewClassTree;
import com.sun.source.tree.SynchronizedTree;
import com.sun.source.tree.ThrowTree;
import com.sun.source.tree.Tree;
import com.sun.source.tree.TryTree;
import com.sun.source.tree.VariableTree;
import com.sun.source.util.JavacTask;
import com.sun.source.util.TreePath;
import com.sun.source.util.TreePathScanner;
import com.sun.source.util.Trees;
import java.io.File;
import java.io.IOException;
import java.util.HashMap;
import java.util.HashSet;
import java.util.Map;
import java.util.Set;
import javax.lang.model.element.Element;
import javax.lang.model.element.Modifier;
import javax.tools.JavaCompiler;
import javax.tools.StandardJavaFileManager;
import javax.tools.ToolProvider;

/** The rules of LANGUAGE.md that can be read off the program's text, by their numbers there. */
public final class LanguageTest extends TreePathScanner<Void, Void> {
    private static final File PROGRAM = new File("src/main/java/StateBench.java");
    private static final Set<String> EXCEPTIONS = Set.of(
            "IllegalStateException", "IllegalArgumentException", "IndexOutOfBoundsException");
    // What the program uses of all that rule 4 allows; a new name here is to be looked up there first.
    private static final Set<String> LIBRARY = Set.of("java.lang.Integer.bitCount",
            "java.lang.Integer.numberOfTrailingZeros", "java.lang.System.arraycopy", "java.util.Arrays.fill");
    private static final Set<String> TYPES = Set.of("int", "long", "boolean", "int[]", "boolean[]", "String",
            "Links", "Adverts", "Ways");

    private final Trees trees;
    private final Map<Element, Set<Element>> callsOf = new HashMap<>();
    private final Set<String> publicNames = new HashSet<>();
    private final Set<String> otherNames = new HashSet<>();
    private int classes;

    private LanguageTest(Trees trees) {
        this.trees = trees;
    }

    public static void main(String[] args) throws IOException {
        JavaCompiler compiler = ToolProvider.getSystemJavaCompiler();
        try (StandardJavaFileManager files = compiler.getStandardFileManager(null, null, null)) {
            JavacTask task = (JavacTask) compiler.getTask(
                    null, files, null, null, null, files.getJavaFileObjects(PROGRAM));
            LanguageTest test = new LanguageTest(Trees.instance(task));
            CompilationUnitTree file = task.parse().iterator().next();
            task.analyze();
            test.scan(file, null);
            test.readAsAWhole(file);
        }
        Check.end();
    }

    private void readAsAWhole(CompilationUnitTree file) {
        Check.due("a package line is there", file.getPackageName() != null, false);
        Check.due("classes at the top", file.getTypeDecls().size(), 1);
        publicNames.retainAll(otherNames);
        Check.due("rule 1: private methods with a public one's name", publicNames.toString(), "[]");
        Check.due("rule 11: at most 12 classes", classes <= 12, true);
        for (Element method : callsOf.keySet()) {
            int deep = depthFrom(method, new HashSet<>());
            Check.due("rules 8 and 11: calls from " + method + " go " + deep + " deep", deep <= 8, true);
        }
    }

    /** How many calls stand open at most; far too many where a method comes to itself again. */
    private int depthFrom(Element method, Set<Element> open) {
        if (!callsOf.containsKey(method)) {
            return 0;
        }
        if (!open.add(method)) {
            return 1000;
        }
        int deepest = 0;
        for (Element called : callsOf.get(method)) {
            deepest = Math.max(deepest, 1 + depthFrom(called, open));
        }
        open.remove(method);
        return deepest;
    }

    private void never(String rule, Tree tree) {
        Check.due(rule, tree.toString(), "nothing of that kind");
    }

    private <T> T around(Class<T> kind) {
        for (TreePath path = getCurrentPath().getParentPath(); path != null; path = path.getParentPath()) {
            if (kind.isInstance(path.getLeaf())) {
                return kind.cast(path.getLeaf());
            }
        }
        return null;
    }

    private boolean isInAMethod() {
        MethodTree method = around(MethodTree.class);
        return method != null && method.getReturnType() != null;
    }

    private boolean isInAConstructor() {
        MethodTree method = around(MethodTree.class);
        return method != null && method.getReturnType() == null;
    }

    private Element element(Tree tree) {
        return trees.getElement(new TreePath(getCurrentPath(), tree));
    }

    private long linesOf(Tree tree) {
        CompilationUnitTree file = getCurrentPath().getCompilationUnit();
        long from = trees.getSourcePositions().getStartPosition(file, tree);
        long to = trees.getSourcePositions().getEndPosition(file, tree);
        return file.getLineMap().getLineNumber(to) - file.getLineMap().getLineNumber(from) + 1;
    }

    @Override
    public Void visitClass(ClassTree tree, Void none) {
        classes++;
        boolean inside = getCurrentPath().getParentPath().getLeaf() instanceof ClassTree;
        Set<Modifier> flags = tree.getModifiers().getFlags();
        if (inside) {
            Check.due("rule 1: " + tree.getSimpleName() + " is static", flags.contains(Modifier.STATIC), true);
        }
        Check.due("rule 2: " + tree.getSimpleName() + " is in no method", isInAMethod(), false);
        int fields = 0;
        for (Tree member : tree.getMembers()) {
            boolean ofObjects = member instanceof VariableTree field
                    && !field.getModifiers().getFlags().contains(Modifier.STATIC);
            fields += ofObjects ? 1 : 0;
            Check.due("rule 5: a block of its own in " + tree.getSimpleName(), member instanceof BlockTree, false);
        }
        Check.due("rule 11: at most 20 fields in " + tree.getSimpleName(), fields <= 20, true);
        return super.visitClass(tree, none);
    }

    @Override
    public Void visitVariable(VariableTree tree, Void none) {
        Set<Modifier> flags = tree.getModifiers().getFlags();
        Check.due("rule 3: the type of " + tree, TYPES.contains(tree.getType().toString()), true);
        if (flags.contains(Modifier.STATIC)) {
            Check.due("rule 5: " + tree + " is final", flags.contains(Modifier.FINAL), true);
            Check.due("rule 5: " + tree + " is an int", tree.getType().toString(), "int");
        }
        return super.visitVariable(tree, none);
    }

    @Override
    public Void visitMethod(MethodTree tree, Void none) {
        Check.due("rule 11: at most 7 parameters of " + tree.getName(), tree.getParameters().size() <= 7, true);
        Check.due("rule 11: at most 60 lines of " + tree.getName(), linesOf(tree) <= 60, true);
        if (tree.getReturnType() != null) {
            boolean isPublic = tree.getModifiers().getFlags().contains(Modifier.PUBLIC);
            (isPublic ? publicNames : otherNames).add(tree.getName().toString());
        }
        callsOf.put(trees.getElement(getCurrentPath()), new HashSet<>());
        return super.visitMethod(tree, none);
    }

    @Override
    public Void visitMethodInvocation(MethodInvocationTree tree, Void none) {
        Element called = element(tree.getMethodSelect());
        String owner = called.getEnclosingElement().toString();
        boolean isOwn = owner.startsWith("StateBench");
        boolean isSuper = tree.getMethodSelect().toString().equals("super");
        String name = owner + "." + called.getSimpleName();
        Check.due("rule 4: " + name + " may be used", isOwn || isSuper || LIBRARY.contains(name), true);
        if (around(MethodTree.class) != null) {
            callsOf.get(trees.getElement(pathOfTheMethod())).add(called);
        }
        return super.visitMethodInvocation(tree, none);
    }

    private TreePath pathOfTheMethod() {
        TreePath path = getCurrentPath();
        while (!(path.getLeaf() instanceof MethodTree)) {
            path = path.getParentPath();
        }
        return path;
    }

    @Override
    public Void visitThrow(ThrowTree tree, Void none) {
        Check.due("rule 6: a throw in a constructor", isInAConstructor(), false);
        Check.due("rule 6: " + tree + " as written there", isPlain(tree.getExpression()), true);
        return super.visitThrow(tree, none);
    }

    private static boolean isPlain(ExpressionTree thrown) {
        if (!(thrown instanceof NewClassTree made) || !EXCEPTIONS.contains(made.getIdentifier().toString())) {
            return false;
        }
        return made.getArguments().size() == 1 && made.getArguments().get(0) instanceof LiteralTree;
    }

    @Override
    public Void visitNewClass(NewClassTree tree, Void none) {
        boolean isThrown = getCurrentPath().getParentPath().getLeaf() instanceof ThrowTree;
        Check.due("rule 12: " + tree + " is made in a method", isInAMethod() && !isThrown, false);
        return super.visitNewClass(tree, none);
    }

    @Override
    public Void visitNewArray(NewArrayTree tree, Void none) {
        Check.due("rule 12: " + tree + " is made in a method", isInAMethod(), false);
        return super.visitNewArray(tree, none);
    }

    @Override
    public Void visitLambdaExpression(LambdaExpressionTree tree, Void none) {
        never("rule 2", tree);
        return null;
    }

    @Override
    public Void visitMemberReference(MemberReferenceTree tree, Void none) {
        never("rule 2", tree);
        return null;
    }

    @Override
    public Void visitTry(TryTree tree, Void none) {
        never("rule 6 and the program's own: nothing is caught", tree);
        return null;
    }

    @Override
    public Void visitSynchronized(SynchronizedTree tree, Void none) {
        never("rule 6", tree);
        return null;
    }

    @Override
    public Void visitAssert(AssertTree tree, Void none) {
        never("rule 6", tree);
        return null;
    }
}
