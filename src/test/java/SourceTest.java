import com.sun.source.tree.AssertTree;
import com.sun.source.tree.ClassTree;
import com.sun.source.tree.CompilationUnitTree;
import com.sun.source.tree.DoWhileLoopTree;
import com.sun.source.tree.ForLoopTree;
import com.sun.source.tree.LambdaExpressionTree;
import com.sun.source.tree.MemberReferenceTree;
import com.sun.source.tree.MethodInvocationTree;
import com.sun.source.tree.MethodTree;
import com.sun.source.tree.NewArrayTree;
import com.sun.source.tree.NewClassTree;
import com.sun.source.tree.SynchronizedTree;
import com.sun.source.tree.ThrowTree;
import com.sun.source.tree.Tree;
import com.sun.source.tree.TryTree;
import com.sun.source.tree.VariableTree;
import com.sun.source.tree.WhileLoopTree;
import com.sun.source.util.JavacTask;
import com.sun.source.util.TreePathScanner;
import com.sun.source.util.Trees;
import java.io.File;
import java.io.IOException;
import java.util.HashMap;
import java.util.HashSet;
import java.util.Map;
import java.util.Set;
import java.util.TreeSet;
import javax.lang.model.element.Element;
import javax.tools.JavaCompiler;
import javax.tools.StandardJavaFileManager;
import javax.tools.ToolProvider;

/** The rules of LANGUAGE.md that can be read off the source as the compiler reads it. */
public final class SourceTest extends TreePathScanner<Void, Void> {
    private static final Set<String> LIBRARY = Set.of("java.lang.Object.Object()", "java.lang.Math.max(int,int)",
        "java.lang.Math.min(int,int)", "java.lang.Integer.bitCount(int)", "java.util.Arrays.fill(int[],int)",
        "java.lang.System.arraycopy(java.lang.Object,int,java.lang.Object,int,int)");
    private static final Set<String> TYPES = Set.of("int", "long", "boolean", "char", "int[]", "boolean[]");
    /** Rule 11: calls that are no recursion go at most so deep. */
    private static final int DEEPEST = 8;

    private final Trees trees;
    private final Set<String> own = new HashSet<>();
    /** What each method of the source calls of those of the source. */
    private final Map<String, Set<String>> calls = new HashMap<>();
    private final Map<String, Integer> depths = new HashMap<>();
    private String method = "";

    private SourceTest(Trees trees) {
        this.trees = trees;
    }

    public static void main(String[] args) throws IOException {
        JavaCompiler compiler = ToolProvider.getSystemJavaCompiler();
        try (StandardJavaFileManager files = compiler.getStandardFileManager(null, null, null)) {
            JavacTask task = (JavacTask) compiler.getTask(null, files, null, null, null,
                files.getJavaFileObjects(new File("src/main/java/SkateBonds.java")));
            CompilationUnitTree unit = task.parse().iterator().next();
            task.analyze();
            SourceTest test = new SourceTest(Trees.instance(task));
            test.classes(unit);
            test.scan(unit, null);
            test.depths();
        }
        Due.end();
    }

    private void classes(CompilationUnitTree unit) {
        Due.part("rule 1");
        Due.is("classes beside the one of the face", unit.getTypeDecls().size(), 1);
        own.add("SkateBonds");
        for (Tree member : ((ClassTree) unit.getTypeDecls().get(0)).getMembers()) {
            if (member instanceof ClassTree inside) {
                own.add(inside.getSimpleName().toString());
            }
        }
    }

    private void barred(String rule, Tree found) {
        Due.part(rule);
        Due.holds("no " + found.getKind() + " in " + method + ": " + found, false);
    }

    private Element element() {
        return trees.getElement(getCurrentPath());
    }

    private static String told(Element method) {
        return method.getEnclosingElement() + "." + method;
    }

    @Override
    public Void visitMethod(MethodTree tree, Void none) {
        method = told(element());
        calls.put(method, new TreeSet<>());
        super.visitMethod(tree, none);
        method = "";
        return null;
    }

    @Override
    public Void visitMethodInvocation(MethodInvocationTree tree, Void none) {
        String called = told(element());
        if (called.startsWith("SkateBonds.")) {
            Due.part("rule 12");
            Due.holds("a field calls nothing: " + tree, !method.isEmpty());
            calls.get(method).add(called);
        } else {
            Due.part("rule 4");
            Due.holds("the library's " + called + " is known", LIBRARY.contains(called));
        }
        return super.visitMethodInvocation(tree, none);
    }

    @Override
    public Void visitVariable(VariableTree tree, Void none) {
        Due.part("rule 3");
        String type = tree.getType().toString();
        String single = type.endsWith("[]") ? type.substring(0, type.length() - 2) : type;
        Due.holds(tree + " is of a type that may be", TYPES.contains(type) || own.contains(single));
        return super.visitVariable(tree, none);
    }

    @Override
    public Void visitNewClass(NewClassTree tree, Void none) {
        Due.part("rule 12: no call makes an object");
        Due.holds(tree + " stands in a field or in the constructor", isMaking());
        Due.holds(tree + " is one of the file's", own.contains(tree.getIdentifier().toString()));
        return super.visitNewClass(tree, none);
    }

    @Override
    public Void visitNewArray(NewArrayTree tree, Void none) {
        Due.part("rule 12: no call makes an array");
        Due.holds(tree + " stands in a field or in the constructor", isMaking());
        return super.visitNewArray(tree, none);
    }

    private boolean isMaking() {
        return method.isEmpty() || method.equals("SkateBonds.SkateBonds()");
    }

    @Override
    public Void visitForLoop(ForLoopTree tree, Void none) {
        Due.part("rule 9");
        Due.holds(tree + " has a bound", tree.getCondition() != null && tree.getUpdate().size() == 1);
        return super.visitForLoop(tree, none);
    }

    @Override
    public Void visitWhileLoop(WhileLoopTree tree, Void none) {
        barred("rule 9, as held here: loops count", tree);
        return super.visitWhileLoop(tree, none);
    }

    @Override
    public Void visitDoWhileLoop(DoWhileLoopTree tree, Void none) {
        barred("rule 9, as held here: loops count", tree);
        return super.visitDoWhileLoop(tree, none);
    }

    @Override
    public Void visitLambdaExpression(LambdaExpressionTree tree, Void none) {
        barred("rule 2", tree);
        return null;
    }

    @Override
    public Void visitMemberReference(MemberReferenceTree tree, Void none) {
        barred("rule 2", tree);
        return null;
    }

    @Override
    public Void visitThrow(ThrowTree tree, Void none) {
        barred("rule 6", tree);
        return null;
    }

    @Override
    public Void visitTry(TryTree tree, Void none) {
        barred("rule 6", tree);
        return null;
    }

    @Override
    public Void visitAssert(AssertTree tree, Void none) {
        barred("rule 6", tree);
        return null;
    }

    @Override
    public Void visitSynchronized(SynchronizedTree tree, Void none) {
        barred("rule 6", tree);
        return null;
    }

    private void depths() {
        Due.part("rules 8 and 11");
        Due.holds("methods are found", calls.size() > 60);
        for (String one : calls.keySet()) {
            int depth = depth(one, 1);
            Due.holds(one + " goes " + depth + " calls deep", depth <= DEEPEST);
        }
    }

    /** How many calls stand open at most from a method on, itself among them; far more than may be, if it is a recursion. */
    private int depth(String one, int open) {
        if (open > calls.size()) {
            return calls.size();
        }
        Integer known = depths.get(one);
        if (known != null) {
            return known;
        }
        int below = 0;
        for (String called : calls.get(one)) {
            below = Math.max(below, depth(called, open + 1));
        }
        depths.put(one, below + 1);
        return below + 1;
    }
}
