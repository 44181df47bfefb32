import com.sun.source.tree.CompilationUnitTree;
import com.sun.source.tree.MethodInvocationTree;
import com.sun.source.tree.MethodTree;
import com.sun.source.tree.NewClassTree;
import com.sun.source.util.JavacTask;
import com.sun.source.util.TreePathScanner;
import com.sun.source.util.Trees;
import java.io.IOException;
import java.nio.file.Path;
import java.util.ArrayDeque;
import java.util.Deque;
import java.util.LinkedHashMap;
import java.util.LinkedHashSet;
import java.util.List;
import java.util.Map;
import java.util.Set;
import javax.lang.model.element.Element;
import javax.tools.JavaCompiler;
import javax.tools.StandardJavaFileManager;
import javax.tools.ToolProvider;

/** The methods of a source as the compiler sees them: how long each is, and which of them it calls. */
final class Source extends TreePathScanner<Void, Void> {
    private final Map<Element, Set<Element>> calls = new LinkedHashMap<>();
    private final Map<Element, Long> lines = new LinkedHashMap<>();
    private final Trees trees;
    private CompilationUnitTree unit;
    private Element method;

    private Source(Trees trees) {
        this.trees = trees;
    }

    static Source of(Path path) throws IOException {
        JavaCompiler compiler = ToolProvider.getSystemJavaCompiler();
        try (StandardJavaFileManager files = compiler.getStandardFileManager(null, null, null)) {
            JavacTask task = (JavacTask) compiler.getTask(null, files, null, List.of("-proc:none"), null, files.getJavaFileObjects(path));
            Source source = new Source(Trees.instance(task));
            Iterable<? extends CompilationUnitTree> units = task.parse();
            task.analyze();
            for (CompilationUnitTree unit : units) {
                source.unit = unit;
                source.scan(unit, null);
            }
            return source;
        }
    }

    @Override
    public Void visitMethod(MethodTree tree, Void none) {
        Element outside = method;
        method = trees.getElement(getCurrentPath());
        calls.put(method, new LinkedHashSet<>());
        lines.put(method, lineOf(trees.getSourcePositions().getEndPosition(unit, tree)) - lineOf(trees.getSourcePositions().getStartPosition(unit, tree)) + 1);
        super.visitMethod(tree, none);
        method = outside;
        return null;
    }

    @Override
    public Void visitMethodInvocation(MethodInvocationTree tree, Void none) {
        addCall();
        return super.visitMethodInvocation(tree, none);
    }

    @Override
    public Void visitNewClass(NewClassTree tree, Void none) {
        addCall();
        return super.visitNewClass(tree, none);
    }

    /** What a field's initialiser makes belongs to no method; a constructor calls it ahead of its own lines. */
    private void addCall() {
        if (method != null) {
            calls.get(method).add(trees.getElement(getCurrentPath()));
        }
    }

    private long lineOf(long position) {
        return position < 0 ? 0 : unit.getLineMap().getLineNumber(position);
    }

    Set<Element> methods() {
        return calls.keySet();
    }

    long linesOf(Element one) {
        return lines.get(one);
    }

    /** How many calls of the source's own methods stand open at once, this one too; above 100 if it comes back to itself. */
    int depthOf(Element one) {
        return depthOf(one, new ArrayDeque<>());
    }

    private int depthOf(Element one, Deque<Element> open) {
        if (open.contains(one)) {
            return 100;
        }
        open.push(one);
        int deepest = 0;
        for (Element called : calls.get(one)) {
            if (calls.containsKey(called)) {
                deepest = Math.max(deepest, depthOf(called, open));
            }
        }
        open.pop();
        return deepest + 1;
    }
}
