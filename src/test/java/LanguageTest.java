import com.sun.source.tree.AssertTree;
import com.sun.source.tree.BinaryTree;
import com.sun.source.tree.ClassTree;
import com.sun.source.tree.CompilationUnitTree;
import com.sun.source.tree.ForLoopTree;
import com.sun.source.tree.LambdaExpressionTree;
import com.sun.source.tree.LiteralTree;
import com.sun.source.tree.MemberReferenceTree;
import com.sun.source.tree.MethodInvocationTree;
import com.sun.source.tree.MethodTree;
import com.sun.source.tree.NewArrayTree;
import com.sun.source.tree.NewClassTree;
import com.sun.source.tree.SynchronizedTree;
import com.sun.source.tree.ThrowTree;
import com.sun.source.tree.Tree;
import com.sun.source.tree.TryTree;
import com.sun.source.tree.VariableTree;
import com.sun.source.util.JavacTask;
import com.sun.source.util.TreePath;
import com.sun.source.util.TreePathScanner;
import com.sun.source.util.Trees;
import java.io.IOException;
import java.nio.charset.StandardCharsets;
import java.nio.file.Path;
import java.util.HashMap;
import java.util.LinkedHashSet;
import java.util.List;
import java.util.Map;
import java.util.Set;
import javax.lang.model.element.Element;
import javax.lang.model.element.ElementKind;
import javax.lang.model.element.ExecutableElement;
import javax.lang.model.element.Modifier;
import javax.tools.JavaCompiler;
import javax.tools.StandardJavaFileManager;
import javax.tools.ToolProvider;

/** The rules of LANGUAGE.md that can be looked after in the program's text, each named by its number. */
public final class LanguageTest extends TreePathScanner<Void, Void> {
    private static final Path SOURCE = Path.of("src/main/java/SpreadingDeletes.java");
    private static final String NAME = "SpreadingDeletes";
    private static final int MOST_LINES = 60;
    private static final int MOST_CLASSES = 12;
    private static final int MOST_FIELDS = 20;
    private static final int MOST_PARAMETERS = 7;
    private static final int DEEPEST_CALL = 8;

    // What the program has used of the library so far; rule 4 has more, which may be added here.
    private static final Set<String> LIBRARY = Set.of("java.lang.System.arraycopy", "java.util.Arrays.fill");
    private static final Set<String> CONSTANT_TYPES = Set.of("int", "long", "boolean", "char", "java.lang.String");

    private final Check check = new Check();
    private final Trees trees;
    private final CompilationUnitTree unit;
    private final Map<String, Set<String>> calls = new HashMap<>();
    private int classes = 0;

    private LanguageTest(Trees trees, CompilationUnitTree unit) {
        this.trees = trees;
        this.unit = unit;
    }

    public static void main(String[] args) throws IOException {
        JavaCompiler compiler = ToolProvider.getSystemJavaCompiler();
        StandardJavaFileManager files = compiler.getStandardFileManager(null, null, StandardCharsets.UTF_8);
        JavacTask task = (JavacTask) compiler.getTask(null, files, null, List.of("-proc:none"), null,
                files.getJavaFileObjects(SOURCE));
        CompilationUnitTree unit = task.parse().iterator().next();
        task.analyze();
        LanguageTest test = new LanguageTest(Trees.instance(task), unit);
        test.scan(new TreePath(unit), null);
        test.lookAtClasses();
        test.lookAtCalls();
        test.check.end();
    }

    private void lookAtClasses() {
        check.holds("no package line", unit.getPackageName() == null);
        check.holds("one class outside", unit.getTypeDecls().size() == 1);
        check.holds("rule 11: " + classes + " classes", classes <= MOST_CLASSES);
    }

    private void lookAtCalls() {
        for (String method : calls.keySet()) {
            int depth = depth(method, new LinkedHashSet<>());
            check.holds("rule 11: calls go " + depth + " deep from " + method, depth <= DEEPEST_CALL);
        }
    }

    /** How many calls stand open at once, this one among them. */
    private int depth(String method, Set<String> open) {
        if (!open.add(method)) {
            check.holds("rule 8: recursion without a guard that this test knows of: " + open + " " + method, false);
            return 0;
        }
        int deepest = 0;
        for (String called : calls.getOrDefault(method, Set.of())) {
            deepest = Math.max(deepest, depth(called, open));
        }
        open.remove(method);
        return deepest + 1;
    }

    private Element element(Tree tree) {
        return trees.getElement(new TreePath(getCurrentPath(), tree));
    }

    private String place(Tree tree) {
        return tree.getKind() + " in line "
                + unit.getLineMap().getLineNumber(trees.getSourcePositions().getStartPosition(unit, tree));
    }

    private void forbid(int rule, Tree tree) {
        check.holds("rule " + rule + ": " + place(tree), false);
    }

    /** The method that is being scanned, or null in an initialiser of a field. */
    private ExecutableElement method() {
        for (TreePath path = getCurrentPath(); path != null; path = path.getParentPath()) {
            if (path.getLeaf() instanceof MethodTree) {
                return (ExecutableElement) trees.getElement(path);
            }
        }
        return null;
    }

    private static String told(ExecutableElement method) {
        return method.getEnclosingElement() + "." + method;
    }

    private void noteCall(Element called) {
        if (method() != null) {
            calls.computeIfAbsent(told(method()), name -> new LinkedHashSet<>()).add(told((ExecutableElement) called));
        }
    }

    @Override
    public Void visitClass(ClassTree tree, Void none) {
        classes++;
        Element element = trees.getElement(getCurrentPath());
        boolean isOutside = element.toString().equals(NAME);
        Set<Modifier> modifiers = element.getModifiers();
        check.holds("rule 1 or 2: " + place(tree), isOutside
                ? modifiers.equals(Set.of(Modifier.PUBLIC, Modifier.FINAL))
                : modifiers.contains(Modifier.STATIC) && element.getEnclosingElement().toString().equals(NAME));
        long fields = element.getEnclosedElements().stream().filter(member -> member.getKind() == ElementKind.FIELD
                && !member.getModifiers().contains(Modifier.STATIC)).count();
        check.holds("rule 11: " + fields + " fields, " + place(tree), fields <= MOST_FIELDS);
        for (Tree member : tree.getMembers()) {
            if (member.getKind() == Tree.Kind.BLOCK) {
                forbid(5, member);
            }
        }
        return super.visitClass(tree, none);
    }

    @Override
    public Void visitMethod(MethodTree tree, Void none) {
        long first = unit.getLineMap().getLineNumber(trees.getSourcePositions().getStartPosition(unit, tree));
        long last = unit.getLineMap().getLineNumber(trees.getSourcePositions().getEndPosition(unit, tree));
        check.holds("rule 11: " + (last - first + 1) + " lines, " + place(tree), last - first < MOST_LINES);
        check.holds("rule 11: parameters, " + place(tree), tree.getParameters().size() <= MOST_PARAMETERS);
        return super.visitMethod(tree, none);
    }

    @Override
    public Void visitVariable(VariableTree tree, Void none) {
        Element element = trees.getElement(getCurrentPath());
        if (element.getKind() == ElementKind.FIELD && element.getModifiers().contains(Modifier.STATIC)) {
            check.holds("rule 5: " + place(tree), element.getModifiers().contains(Modifier.FINAL)
                    && CONSTANT_TYPES.contains(element.asType().toString()));
        }
        String base = element.asType().toString().replace("[]", "");
        check.holds("rule 3: " + base + ", " + place(tree), element.asType().getKind().isPrimitive()
                || CONSTANT_TYPES.contains(base) || base.startsWith(NAME + "."));
        return super.visitVariable(tree, none);
    }

    @Override
    public Void visitMethodInvocation(MethodInvocationTree tree, Void none) {
        Element called = element(tree.getMethodSelect());
        String owner = called.getEnclosingElement().toString();
        if (owner.equals(NAME) || owner.startsWith(NAME + ".")) {
            noteCall(called);
        } else if (called.getKind() != ElementKind.CONSTRUCTOR) {
            String name = owner + "." + called.getSimpleName();
            check.holds("rule 4: " + name + ", " + place(tree), LIBRARY.contains(name));
        }
        return super.visitMethodInvocation(tree, none);
    }

    @Override
    public Void visitNewClass(NewClassTree tree, Void none) {
        check.holds("rule 2: " + place(tree), tree.getClassBody() == null);
        check.holds("rule 3: " + place(tree), element(tree.getIdentifier()).toString().startsWith(NAME + "."));
        madeAtTheStart(tree);
        return super.visitNewClass(tree, none);
    }

    @Override
    public Void visitNewArray(NewArrayTree tree, Void none) {
        madeAtTheStart(tree);
        return super.visitNewArray(tree, none);
    }

    /** The room is shared by all calls of a run: nothing is made after the constructors. */
    private void madeAtTheStart(Tree tree) {
        check.holds("rule 12: " + place(tree), method() == null || method().getKind() == ElementKind.CONSTRUCTOR);
    }

    @Override
    public Void visitBinary(BinaryTree tree, Void none) {
        String type = String.valueOf(trees.getTypeMirror(getCurrentPath()));
        check.holds("rule 10: joining of texts, " + place(tree), !type.equals("java.lang.String"));
        return super.visitBinary(tree, none);
    }

    @Override
    public Void visitLiteral(LiteralTree tree, Void none) {
        if (tree.getValue() instanceof String text) {
            check.holds("rule 4: " + place(tree), text.chars().allMatch(sign -> sign >= 1 && sign <= 127));
        }
        return super.visitLiteral(tree, none);
    }

    @Override
    public Void visitForLoop(ForLoopTree tree, Void none) {
        check.holds("rule 9: " + place(tree), tree.getCondition() != null);
        return super.visitForLoop(tree, none);
    }

    @Override
    public Void visitLambdaExpression(LambdaExpressionTree tree, Void none) {
        forbid(2, tree);
        return super.visitLambdaExpression(tree, none);
    }

    @Override
    public Void visitMemberReference(MemberReferenceTree tree, Void none) {
        forbid(2, tree);
        return super.visitMemberReference(tree, none);
    }

    @Override
    public Void visitThrow(ThrowTree tree, Void none) {
        forbid(6, tree);
        return super.visitThrow(tree, none);
    }

    @Override
    public Void visitTry(TryTree tree, Void none) {
        forbid(6, tree);
        return super.visitTry(tree, none);
    }

    @Override
    public Void visitSynchronized(SynchronizedTree tree, Void none) {
        forbid(6, tree);
        return super.visitSynchronized(tree, none);
    }

    @Override
    public Void visitAssert(AssertTree tree, Void none) {
        forbid(6, tree);
        return super.visitAssert(tree, none);
    }
}
