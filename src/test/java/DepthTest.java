import com.sun.source.tree.CompilationUnitTree;
import com.sun.source.tree.MethodInvocationTree;
import com.sun.source.tree.MethodTree;
import com.sun.source.tree.NewClassTree;
import com.sun.source.util.JavacTask;
import com.sun.source.util.TreePathScanner;
import com.sun.source.util.Trees;
import java.io.IOException;
import java.nio.file.Path;
import java.util.HashMap;
import java.util.LinkedHashSet;
import java.util.List;
import java.util.Map;
import java.util.Set;
import javax.lang.model.element.Element;
import javax.tools.JavaCompiler;
import javax.tools.StandardJavaFileManager;
import javax.tools.ToolProvider;

/** Rules 8 and 11 of the language: calls go at most eight deep, and nothing calls itself. The first argument is the source. */
public final class DepthTest {
    private static final int MOST = 8;

    /** Of a method of the source: which methods and constructors it calls. */
    private static final Map<Element, Set<Element>> CALLS = new HashMap<>();

    public static void main(String[] args) throws IOException {
        learn(Path.of(args[0]));
        Check.isTrue("methods are seen", CALLS.size() > 39);
        for (Element method : CALLS.keySet()) {
            String name = method.getEnclosingElement().getSimpleName() + "." + method.getSimpleName();
            int depth = depthOf(method, 1);
            Check.isTrue(name + " goes at most eight deep: " + depth, depth <= MOST);
        }
        Check.finish();
    }

    private static void learn(Path source) throws IOException {
        JavaCompiler compiler = ToolProvider.getSystemJavaCompiler();
        try (StandardJavaFileManager files = compiler.getStandardFileManager(null, null, null)) {
            JavacTask task = (JavacTask) compiler.getTask(null, files, null, List.of("-proc:none"), null,
                    files.getJavaFileObjects(source));
            Iterable<? extends CompilationUnitTree> units = task.parse();
            task.analyze();
            for (CompilationUnitTree unit : units) {
                new Scanner(Trees.instance(task)).scan(unit, null);
            }
        }
    }

    /** A method that calls itself, over others too, is deeper than any bound. */
    private static int depthOf(Element method, int above) {
        int most = 0;
        for (Element called : CALLS.getOrDefault(method, Set.of())) {
            most = above > MOST ? MOST : Math.max(most, depthOf(called, above + 1));
        }
        return most + 1;
    }

    private static final class Scanner extends TreePathScanner<Void, Element> {
        private final Trees trees;

        Scanner(Trees trees) {
            this.trees = trees;
        }

        @Override
        public Void visitMethod(MethodTree tree, Element outer) {
            Element method = trees.getElement(getCurrentPath());
            CALLS.put(method, new LinkedHashSet<>());
            return super.visitMethod(tree, method);
        }

        @Override
        public Void visitMethodInvocation(MethodInvocationTree tree, Element method) {
            note(method);
            return super.visitMethodInvocation(tree, method);
        }

        @Override
        public Void visitNewClass(NewClassTree tree, Element method) {
            note(method);
            return super.visitNewClass(tree, method);
        }

        private void note(Element method) {
            if (method != null) {
                CALLS.get(method).add(trees.getElement(getCurrentPath()));
            }
        }
    }
}
