import com.sun.source.tree.ClassTree;
import com.sun.source.tree.CompilationUnitTree;
import com.sun.source.tree.MethodInvocationTree;
import com.sun.source.tree.MethodTree;
import com.sun.source.tree.NewArrayTree;
import com.sun.source.tree.NewClassTree;
import com.sun.source.tree.Tree;
import com.sun.source.tree.VariableTree;
import com.sun.source.util.JavacTask;
import com.sun.source.util.TreePathScanner;
import com.sun.source.util.Trees;
import java.io.IOException;
import java.nio.file.Path;
import java.util.LinkedHashMap;
import java.util.LinkedHashSet;
import java.util.List;
import java.util.Map;
import java.util.Set;
import javax.lang.model.element.Element;
import javax.lang.model.element.ExecutableElement;
import javax.lang.model.element.Modifier;
import javax.tools.JavaCompiler;
import javax.tools.StandardJavaFileManager;
import javax.tools.ToolProvider;

/**
 * Rules 8, 11 and 12 of LANGUAGE.md, by the compiler's own tree: no recursion, calls at most eight deep, twenty fields
 * a class at most, and nothing is made behind the constructors. Run from the project's folder.
 */
public final class CallsTest extends TreePathScanner<Void, Void> {
    private static final Due T = new Due("CallsTest");
    private static final int MOST_DEEP = 8;
    private static final int MOST_FIELDS = 20;

    private final Trees trees;
    private final Map<Element, Set<Element>> calls = new LinkedHashMap<>();
    private Element caller;

    private CallsTest(Trees trees) {
        this.trees = trees;
    }

    public static void main(String[] args) throws IOException {
        JavaCompiler compiler = ToolProvider.getSystemJavaCompiler();
        try (StandardJavaFileManager files = compiler.getStandardFileManager(null, null, null)) {
            var source = files.getJavaFileObjects(Path.of("src/main/java/DotThresholds.java"));
            JavacTask task = (JavacTask) compiler.getTask(null, files, null, List.of("-proc:none"), null, source);
            CallsTest test = new CallsTest(Trees.instance(task));
            Iterable<? extends CompilationUnitTree> units = task.parse();
            task.analyze();
            for (CompilationUnitTree unit : units) {
                test.scan(unit, null);
            }
            test.judge();
        }
        T.end();
    }

    @Override
    public Void visitClass(ClassTree node, Void none) {
        long fields = node.getMembers().stream().filter(CallsTest::isField).count();
        T.due(node.getSimpleName() + " has " + fields + " fields, " + MOST_FIELDS + " at most", fields <= MOST_FIELDS ? 1 : 0, 1);
        return super.visitClass(node, none);
    }

    private static boolean isField(Tree member) {
        return member instanceof VariableTree field && !field.getModifiers().getFlags().contains(Modifier.STATIC);
    }

    @Override
    public Void visitMethod(MethodTree node, Void none) {
        caller = trees.getElement(getCurrentPath());
        calls.put(caller, new LinkedHashSet<>());
        super.visitMethod(node, none);
        caller = null;
        return null;
    }

    @Override
    public Void visitMethodInvocation(MethodInvocationTree node, Void none) {
        if (caller != null) {
            calls.get(caller).add(trees.getElement(getCurrentPath()));
        }
        return super.visitMethodInvocation(node, none);
    }

    @Override
    public Void visitNewClass(NewClassTree node, Void none) {
        made(node);
        if (caller != null) {
            calls.get(caller).add(trees.getElement(getCurrentPath()));
        }
        return super.visitNewClass(node, none);
    }

    @Override
    public Void visitNewArray(NewArrayTree node, Void none) {
        made(node);
        return super.visitNewArray(node, none);
    }

    /** A field's first value is made by the constructor too, and has no caller here. */
    private void made(Tree node) {
        boolean byConstructor = caller == null || caller.getSimpleName().contentEquals("<init>");
        T.due(caller + " makes " + node, byConstructor ? 1 : 0, 1);
    }

    private void judge() {
        for (Element method : calls.keySet()) {
            int deep = depthOf(method, new LinkedHashSet<>());
            T.due(method + " goes " + deep + " calls deep, " + MOST_DEEP + " at most", deep <= MOST_DEEP ? 1 : 0, 1);
        }
    }

    /** How many calls of the class's own methods stand open at once, this one too; the library's are not counted. */
    private int depthOf(Element method, Set<Element> open) {
        boolean isNew = open.add(method);
        T.due(method + " is called by itself: " + open, isNew ? 0 : 1, 0);
        int below = 0;
        for (Element called : calls.getOrDefault(method, Set.of())) {
            if (isNew && called instanceof ExecutableElement && calls.containsKey(called)) {
                below = Math.max(below, depthOf(called, open));
            }
        }
        if (isNew) {
            open.remove(method);
        }
        return 1 + below;
    }
}
