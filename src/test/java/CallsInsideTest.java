import com.sun.source.tree.ClassTree;
import com.sun.source.tree.CompilationUnitTree;
import com.sun.source.tree.DoWhileLoopTree;
import com.sun.source.tree.ForLoopTree;
import com.sun.source.tree.MethodInvocationTree;
import com.sun.source.tree.MethodTree;
import com.sun.source.tree.NewArrayTree;
import com.sun.source.tree.NewClassTree;
import com.sun.source.tree.VariableTree;
import com.sun.source.tree.WhileLoopTree;
import com.sun.source.util.JavacTask;
import com.sun.source.util.TreePathScanner;
import com.sun.source.util.Trees;
import java.nio.file.Path;
import java.util.HashMap;
import java.util.HashSet;
import java.util.List;
import java.util.Map;
import java.util.Set;
import javax.lang.model.element.Element;
import javax.lang.model.element.ExecutableElement;
import javax.lang.model.element.Modifier;
import javax.lang.model.element.TypeElement;
import javax.lang.model.util.Elements;
import javax.tools.JavaCompiler;
import javax.tools.StandardJavaFileManager;
import javax.tools.ToolProvider;

/** Rules 8, 9, 11 and 12 of LANGUAGE.md, by the class as the compiler understands it. */
public final class CallsInsideTest extends TreePathScanner<Void, Void> {
    private final Trees trees;
    private final Elements elements;
    private final Map<ExecutableElement, Set<ExecutableElement>> calls = new HashMap<>();
    private final Map<ExecutableElement, Integer> depths = new HashMap<>();
    private final Set<ExecutableElement> open = new HashSet<>();
    private ExecutableElement method;
    private int loops = 0;
    private int classes = 0;

    private CallsInsideTest(JavacTask task) {
        trees = Trees.instance(task);
        elements = task.getElements();
    }

    public static void main(String[] args) throws Exception {
        JavaCompiler compiler = ToolProvider.getSystemJavaCompiler();
        try (StandardJavaFileManager files = compiler.getStandardFileManager(null, null, null)) {
            JavacTask task = (JavacTask) compiler.getTask(null, files, null, List.of("-proc:none"), null,
                files.getJavaFileObjects(Path.of("src/main/java/StairManners.java")));
            CallsInsideTest test = new CallsInsideTest(task);
            for (CompilationUnitTree unit : task.parse()) {
                task.analyze();
                test.scan(unit, null);
            }
            test.finish();
        }
        Due.finish();
    }

    @Override
    public Void visitClass(ClassTree tree, Void none) {
        classes++;
        int fields = 0;
        for (var member : tree.getMembers()) {
            boolean constant = member instanceof VariableTree v && v.getModifiers().getFlags().contains(Modifier.STATIC);
            fields += member instanceof VariableTree && !constant ? 1 : 0;
        }
        Due.holds("11: " + tree.getSimpleName() + " has " + fields + " fields", fields <= 20);
        return super.visitClass(tree, none);
    }

    @Override
    public Void visitMethod(MethodTree tree, Void none) {
        method = (ExecutableElement) trees.getElement(getCurrentPath());
        calls.computeIfAbsent(method, m -> new HashSet<>());
        Due.holds("11: " + method + " takes at most seven", tree.getParameters().size() <= 7);
        super.visitMethod(tree, none);
        method = null;
        return null;
    }

    private boolean isOwn(Element e) {
        return e instanceof ExecutableElement && elements.getPackageOf(e).isUnnamed();
    }

    private void called(Element e) {
        if (method != null && isOwn(e)) {
            calls.get(method).add((ExecutableElement) e);
        }
    }

    @Override
    public Void visitMethodInvocation(MethodInvocationTree tree, Void none) {
        called(trees.getElement(getCurrentPath()));
        return super.visitMethodInvocation(tree, none);
    }

    @Override
    public Void visitNewClass(NewClassTree tree, Void none) {
        called(trees.getElement(getCurrentPath()));
        madeByConstructor(tree);
        return super.visitNewClass(tree, none);
    }

    @Override
    public Void visitNewArray(NewArrayTree tree, Void none) {
        madeByConstructor(tree);
        return super.visitNewArray(tree, none);
    }

    /** All calls of a run share one room: no call but a constructor makes anything. */
    private void madeByConstructor(Object tree) {
        boolean constructor = method != null && method.getSimpleName().contentEquals("<init>");
        Due.holds("12: made in a constructor: " + tree, constructor);
    }

    @Override
    public Void visitForLoop(ForLoopTree tree, Void none) {
        loops++;
        Due.holds("9: a counter against a bound: " + tree.getCondition(),
            tree.getInitializer().size() == 1 && tree.getCondition() != null && tree.getUpdate().size() == 1);
        return super.visitForLoop(tree, none);
    }

    @Override
    public Void visitWhileLoop(WhileLoopTree tree, Void none) {
        Due.holds("9: no loop without a counter: " + tree.getCondition(), false);
        return super.visitWhileLoop(tree, none);
    }

    @Override
    public Void visitDoWhileLoop(DoWhileLoopTree tree, Void none) {
        Due.holds("9: no loop without a counter: " + tree.getCondition(), false);
        return super.visitDoWhileLoop(tree, none);
    }

    private void finish() {
        int deepest = 0;
        for (ExecutableElement m : calls.keySet()) {
            deepest = Math.max(deepest, depth(m));
        }
        Due.holds("methods are found: " + calls.size(), calls.size() > 100);
        Due.holds("loops are found: " + loops, loops > 30);
        Due.holds("11: at most twelve classes: " + classes, classes > 5 && classes <= 12);
        Due.holds("11: calls go " + deepest + " deep", deepest > 3 && deepest <= 8);
    }

    /** How many calls stand open at once, this one too. */
    private int depth(ExecutableElement m) {
        Integer known = depths.get(m);
        if (known != null) {
            return known;
        }
        open.add(m);
        int deepest = 0;
        for (ExecutableElement next : calls.getOrDefault(m, Set.of())) {
            for (ExecutableElement meant : meant(next)) {
                Due.holds("8: no recursion: " + meant, !open.contains(meant));
                deepest = open.contains(meant) ? deepest : Math.max(deepest, depth(meant));
            }
        }
        open.remove(m);
        depths.put(m, deepest + 1);
        return deepest + 1;
    }

    /** A method and all that stand for it in classes below its own. */
    private Set<ExecutableElement> meant(ExecutableElement m) {
        Set<ExecutableElement> all = new HashSet<>(Set.of(m));
        for (ExecutableElement other : calls.keySet()) {
            if (elements.overrides(other, m, (TypeElement) other.getEnclosingElement())) {
                all.add(other);
            }
        }
        return all;
    }
}
