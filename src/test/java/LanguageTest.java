import com.sun.source.tree.AssertTree;
import com.sun.source.tree.BinaryTree;
import com.sun.source.tree.ClassTree;
import com.sun.source.tree.CompilationUnitTree;
import com.sun.source.tree.LambdaExpressionTree;
import com.sun.source.tree.MemberReferenceTree;
import com.sun.source.tree.MemberSelectTree;
import com.sun.source.tree.MethodInvocationTree;
import com.sun.source.tree.MethodTree;
import com.sun.source.tree.NewArrayTree;
import com.sun.source.tree.NewClassTree;
import com.sun.source.tree.SynchronizedTree;
import com.sun.source.tree.ThrowTree;
import com.sun.source.tree.Tree;
import com.sun.source.tree.TryTree;
import com.sun.source.tree.VariableTree;
import com.sun.source.util.JavacTask;
import com.sun.source.util.SourcePositions;
import com.sun.source.util.TreePath;
import com.sun.source.util.TreePathScanner;
import com.sun.source.util.Trees;
import java.nio.file.Path;
import java.util.ArrayList;
import java.util.HashMap;
import java.util.HashSet;
import java.util.List;
import java.util.Map;
import java.util.Set;
import javax.lang.model.element.Element;
import javax.lang.model.element.ElementKind;
import javax.lang.model.element.ExecutableElement;
import javax.lang.model.element.Modifier;
import javax.lang.model.type.TypeKind;
import javax.tools.ToolProvider;

/** The rules of ../shared/LANGUAGE.md that can be seen in the source of the class, which is the first argument. */
public final class LanguageTest extends TreePathScanner<Void, Void> {
    private static final int MOST_PARAMETERS = 7, MOST_LINES = 60, MOST_CLASSES = 12, MOST_FIELDS = 20, MOST_DEPTH = 8;
    private static final Set<String> LIBRARY = Set.of("java.lang.Math", "java.lang.Integer", "java.lang.Long");
    private static final Due due = new Due();

    private final Trees trees;
    private final CompilationUnitTree unit;
    private final Map<Element, Set<Element>> calls = new HashMap<>();
    private int classes;

    private LanguageTest(Trees trees, CompilationUnitTree unit) {
        this.trees = trees;
        this.unit = unit;
    }

    public static void main(String[] args) throws java.io.IOException {
        String file = args.length > 0 ? args[0] : "src/main/java/LoopListeners.java";
        var compiler = ToolProvider.getSystemJavaCompiler();
        try (var files = compiler.getStandardFileManager(null, null, null)) {
            var task = (JavacTask) compiler.getTask(null, files, null, List.of("-proc:none"), null, files.getJavaFileObjects(Path.of(file)));
            CompilationUnitTree unit = task.parse().iterator().next();
            task.analyze();
            new LanguageTest(Trees.instance(task), unit).check();
        }
        due.end();
    }

    private void check() {
        is("rule 1: no package line", unit.getPackageName() == null);
        is("one class in the file", unit.getTypeDecls().size() == 1);
        is("rule 4: no import", unit.getImports().isEmpty());
        scan(unit, null);
        is("rule 11: classes " + classes, classes <= MOST_CLASSES);
        int deepest = 0;
        for (Element method : new ArrayList<>(calls.keySet())) {
            deepest = Math.max(deepest, depth(method, new HashSet<>()));
        }
        is("rule 11: calls " + deepest + " deep", deepest <= MOST_DEPTH);
    }

    private static void is(String what, boolean so) {
        due.is(what, so ? 1 : 0, 1);
    }

    private void never(String what) {
        is(what + " in line " + unit.getLineMap().getLineNumber(trees.getSourcePositions().getStartPosition(unit, getCurrentPath().getLeaf())), false);
    }

    /** How many calls stand open at once below a method, with its own; a recursion counts as far too many. */
    private int depth(Element method, Set<Element> open) {
        if (!open.add(method)) {
            return 1000;
        }
        int deepest = 0;
        for (Element called : calls.getOrDefault(method, Set.of())) {
            deepest = Math.max(deepest, depth(called, open));
        }
        open.remove(method);
        return deepest + 1;
    }

    private Element method() {
        TreePath path = getCurrentPath();
        while (path != null && path.getLeaf().getKind() != Tree.Kind.METHOD) {
            path = path.getParentPath();
        }
        return path == null ? null : trees.getElement(path);
    }

    private void note(Element called) {
        Element from = method();
        if (from != null && called instanceof ExecutableElement) {
            calls.computeIfAbsent(from, key -> new HashSet<>()).add(called);
        }
    }

    private boolean isOwn(Element element) {
        return trees.getPath(element) != null;
    }

    private boolean inALoopOrACall() {
        Element method = method();
        return method != null && !method.getSimpleName().contentEquals("<init>");
    }

    @Override
    public Void visitClass(ClassTree tree, Void none) {
        classes++;
        if (classes > 1) {
            is("rule 2: " + tree.getSimpleName() + " is static", tree.getModifiers().getFlags().contains(Modifier.STATIC));
        }
        int fields = 0;
        for (Tree member : tree.getMembers()) {
            if (member instanceof VariableTree field && !field.getModifiers().getFlags().contains(Modifier.STATIC)) {
                fields++;
            }
            is("rule 5: no initialiser block", member.getKind() != Tree.Kind.BLOCK);
        }
        is("rule 11: fields of " + tree.getSimpleName() + " " + fields, fields <= MOST_FIELDS);
        return super.visitClass(tree, none);
    }

    @Override
    public Void visitVariable(VariableTree tree, Void none) {
        Set<Modifier> flags = tree.getModifiers().getFlags();
        is("rule 5: a static field is final", !flags.contains(Modifier.STATIC) || flags.contains(Modifier.FINAL));
        return super.visitVariable(tree, none);
    }

    @Override
    public Void visitMethod(MethodTree tree, Void none) {
        SourcePositions positions = trees.getSourcePositions();
        long lines = unit.getLineMap().getLineNumber(Math.max(0, positions.getEndPosition(unit, tree)))
            - unit.getLineMap().getLineNumber(Math.max(0, positions.getStartPosition(unit, tree))) + 1;
        is("rule 11: lines of " + tree.getName() + " " + lines, lines <= MOST_LINES);
        is("rule 11: parameters of " + tree.getName(), tree.getParameters().size() <= MOST_PARAMETERS);
        return super.visitMethod(tree, none);
    }

    @Override
    public Void visitMethodInvocation(MethodInvocationTree tree, Void none) {
        Element called = trees.getElement(new TreePath(getCurrentPath(), tree.getMethodSelect()));
        if (called != null && isOwn(called)) {
            note(called);
        } else if (called != null && !called.getSimpleName().contentEquals("<init>")) {
            boolean listed = LIBRARY.contains(called.getEnclosingElement().toString()) && !called.getSimpleName().toString().endsWith("Exact");
            is("rule 4: " + called.getEnclosingElement() + "." + called, listed);
        }
        return super.visitMethodInvocation(tree, none);
    }

    /** "The library: only what stands here": of Integer, Long and Math these are functions alone, and none of their constants. */
    @Override
    public Void visitMemberSelect(MemberSelectTree tree, Void none) {
        Element named = trees.getElement(getCurrentPath());
        var of = trees.getTypeMirror(new TreePath(getCurrentPath(), tree.getExpression()));
        boolean isLength = of != null && of.getKind() == TypeKind.ARRAY && tree.getIdentifier().contentEquals("length");
        if (named != null && named.getKind() == ElementKind.FIELD && !isLength) {
            is("rule 4: the field " + tree, isOwn(named));
        }
        return super.visitMemberSelect(tree, none);
    }

    @Override
    public Void visitNewClass(NewClassTree tree, Void none) {
        is("rule 2: no class without a name", tree.getClassBody() == null);
        is("objects are made by constructors and initialisers alone", !inALoopOrACall());
        note(trees.getElement(getCurrentPath()));
        return super.visitNewClass(tree, none);
    }

    @Override
    public Void visitNewArray(NewArrayTree tree, Void none) {
        is("rows are made by constructors and initialisers alone", !inALoopOrACall());
        return super.visitNewArray(tree, none);
    }

    @Override
    public Void visitBinary(BinaryTree tree, Void none) {
        var type = trees.getTypeMirror(getCurrentPath());
        is("rule 10: no text is joined by +", type == null || type.getKind() != TypeKind.DECLARED);
        return super.visitBinary(tree, none);
    }

    @Override
    public Void visitThrow(ThrowTree tree, Void none) {
        never("rule 6: throw");
        return null;
    }

    @Override
    public Void visitTry(TryTree tree, Void none) {
        never("rule 6: try");
        return null;
    }

    @Override
    public Void visitSynchronized(SynchronizedTree tree, Void none) {
        never("rule 6: synchronized");
        return null;
    }

    @Override
    public Void visitAssert(AssertTree tree, Void none) {
        never("rule 6: assert");
        return null;
    }

    @Override
    public Void visitLambdaExpression(LambdaExpressionTree tree, Void none) {
        never("rule 2: lambda");
        return null;
    }

    @Override
    public Void visitMemberReference(MemberReferenceTree tree, Void none) {
        never("rule 2: method reference");
        return null;
    }
}
