import com.sun.source.tree.AssertTree;
import com.sun.source.tree.BinaryTree;
import com.sun.source.tree.ClassTree;
import com.sun.source.tree.CompilationUnitTree;
import com.sun.source.tree.ImportTree;
import com.sun.source.tree.LambdaExpressionTree;
import com.sun.source.tree.MemberReferenceTree;
import com.sun.source.tree.MethodInvocationTree;
import com.sun.source.tree.MethodTree;
import com.sun.source.tree.NewClassTree;
import com.sun.source.tree.SynchronizedTree;
import com.sun.source.tree.ThrowTree;
import com.sun.source.tree.Tree;
import com.sun.source.tree.TryTree;
import com.sun.source.util.JavacTask;
import com.sun.source.util.TreePathScanner;
import com.sun.source.util.Trees;
import java.io.File;
import java.util.ArrayDeque;
import java.util.ArrayList;
import java.util.Deque;
import java.util.HashSet;
import java.util.LinkedHashMap;
import java.util.LinkedHashSet;
import java.util.List;
import java.util.Map;
import java.util.Set;
import javax.lang.model.element.Element;
import javax.lang.model.element.ElementKind;
import javax.lang.model.element.Modifier;
import javax.lang.model.element.TypeElement;
import javax.tools.JavaCompiler;
import javax.tools.StandardJavaFileManager;
import javax.tools.ToolProvider;

/** The rules of LANGUAGE.md that can be read off the text of the program. */
public final class LanguageTest extends TreePathScanner<Void, Void> {
    private static final Set<String> LIBRARY = Set.of("java.lang.String.length", "java.lang.String.charAt",
        "java.lang.Integer.bitCount", "java.lang.Math.max", "java.lang.Math.min", "java.lang.System.arraycopy",
        "java.util.Arrays.fill", "java.util.Arrays.copyOf");
    private static final int MOST_LINES = 60;
    private static final int MOST_DEEP = 8;

    private final Trees trees;
    private final CompilationUnitTree unit;
    /** Of each method of the program those that it calls. */
    private final Map<Element, Set<Element>> calls = new LinkedHashMap<>();
    private final Deque<Element> within = new ArrayDeque<>();
    private int classes = 0;

    private LanguageTest(Trees trees, CompilationUnitTree unit) {
        this.trees = trees;
        this.unit = unit;
    }

    public static void main(String[] args) throws Exception {
        File program = new File("src/main/java/AfterTheLast.java");
        JavaCompiler compiler = ToolProvider.getSystemJavaCompiler();
        StandardJavaFileManager files = compiler.getStandardFileManager(null, null, null);
        JavacTask task = (JavacTask) compiler.getTask(null, files, null, List.of("-proc:none"), null, files.getJavaFileObjects(program));
        CompilationUnitTree unit = task.parse().iterator().next();
        task.analyze();
        LanguageTest test = new LanguageTest(Trees.instance(task), unit);
        Check.is("a package line", unit.getPackageName() == null, true);
        test.scan(unit, null);
        Check.is("classes", test.classes <= 12, true);
        test.depths();
        Check.done();
    }

    private void not(String what, Tree tree) {
        long line = unit.getLineMap().getLineNumber(trees.getSourcePositions().getStartPosition(unit, tree));
        Check.is(what + " in line " + line, true, false);
    }

    @Override public Void visitImport(ImportTree tree, Void none) {
        Check.is("import of " + tree.getQualifiedIdentifier(), tree.getQualifiedIdentifier().toString().equals("java.util.Arrays"), true);
        return null;
    }

    @Override public Void visitThrow(ThrowTree tree, Void none) { not("throw", tree); return super.visitThrow(tree, none); }
    @Override public Void visitTry(TryTree tree, Void none) { not("try", tree); return super.visitTry(tree, none); }
    @Override public Void visitAssert(AssertTree tree, Void none) { not("assert", tree); return super.visitAssert(tree, none); }

    @Override public Void visitSynchronized(SynchronizedTree tree, Void none) {
        not("synchronized", tree);
        return super.visitSynchronized(tree, none);
    }

    @Override public Void visitLambdaExpression(LambdaExpressionTree tree, Void none) {
        not("lambda", tree);
        return super.visitLambdaExpression(tree, none);
    }

    @Override public Void visitMemberReference(MemberReferenceTree tree, Void none) {
        not("method reference", tree);
        return super.visitMemberReference(tree, none);
    }

    @Override public Void visitClass(ClassTree tree, Void none) {
        classes++;
        Element element = trees.getElement(getCurrentPath());
        Check.is(tree.getSimpleName() + " has a name", tree.getSimpleName().length() > 0, true);
        Check.is(tree.getSimpleName() + " is no local class", element.getEnclosingElement().getKind() != ElementKind.METHOD, true);
        return super.visitClass(tree, none);
    }

    @Override public Void visitBinary(BinaryTree tree, Void none) {
        String type = String.valueOf(trees.getTypeMirror(getCurrentPath()));
        if (type.equals("java.lang.String")) {
            not("texts joined by +", tree);
        }
        return super.visitBinary(tree, none);
    }

    @Override public Void visitMethod(MethodTree tree, Void none) {
        long from = unit.getLineMap().getLineNumber(trees.getSourcePositions().getStartPosition(unit, tree));
        long to = unit.getLineMap().getLineNumber(Math.max(0, trees.getSourcePositions().getEndPosition(unit, tree)));
        Check.is(tree.getName() + " has few parameters", tree.getParameters().size() <= 7, true);
        Check.is(tree.getName() + " is short: " + (to - from + 1), to - from + 1 <= MOST_LINES, true);
        Element method = trees.getElement(getCurrentPath());
        calls.putIfAbsent(method, new LinkedHashSet<>());
        within.push(method);
        super.visitMethod(tree, none);
        within.pop();
        return null;
    }

    @Override public Void visitMethodInvocation(MethodInvocationTree tree, Void none) {
        called(trees.getElement(getCurrentPath()), tree);
        return super.visitMethodInvocation(tree, none);
    }

    @Override public Void visitNewClass(NewClassTree tree, Void none) {
        if (tree.getClassBody() != null) {
            not("an anonymous class", tree);
        }
        called(trees.getElement(getCurrentPath()), tree);
        return super.visitNewClass(tree, none);
    }

    private void called(Element method, Tree tree) {
        Element outermost = method;
        while (outermost.getEnclosingElement() instanceof TypeElement) {
            outermost = outermost.getEnclosingElement();
        }
        String owner = String.valueOf(((TypeElement) outermost).getQualifiedName());
        if (owner.equals("AfterTheLast")) {
            if (!within.isEmpty()) {
                calls.get(within.peek()).add(method);
            }
        } else if (method.getKind() != ElementKind.CONSTRUCTOR || !owner.equals("java.lang.Object")) {
            String name = owner + "." + method.getSimpleName();
            if (!LIBRARY.contains(name)) {
                not("a call of " + name, tree);
            }
        }
    }

    /** The calls that stand open at once, those of a recursion as one. */
    private void depths() {
        for (Element method : calls.keySet()) {
            if (calls.get(method).contains(method)) {
                Check.is(method + " calls itself and is private and static",
                    method.getModifiers().containsAll(Set.of(Modifier.PRIVATE, Modifier.STATIC)), true);
            }
            int deep = depth(method, new ArrayList<>());
            Check.is(method + " goes at most eight deep: " + deep, deep <= MOST_DEEP, true);
        }
    }

    private int depth(Element method, List<Element> open) {
        if (open.contains(method)) {
            return 0;
        }
        int deepest = 0;
        open.add(method);
        for (Element next : new HashSet<>(calls.getOrDefault(method, Set.of()))) {
            deepest = Math.max(deepest, depth(next, open));
        }
        open.remove(open.size() - 1);
        return 1 + deepest;
    }
}
