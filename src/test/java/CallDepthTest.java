import com.sun.source.tree.ClassTree;
import com.sun.source.tree.CompilationUnitTree;
import com.sun.source.tree.MethodInvocationTree;
import com.sun.source.tree.MethodTree;
import com.sun.source.tree.NewClassTree;
import com.sun.source.util.JavacTask;
import com.sun.source.util.TreePathScanner;
import com.sun.source.util.Trees;
import java.io.File;
import java.util.ArrayList;
import java.util.HashSet;
import java.util.LinkedHashMap;
import java.util.List;
import java.util.Map;
import java.util.Set;
import javax.lang.model.element.Element;
import javax.tools.JavaCompiler;
import javax.tools.StandardJavaFileManager;
import javax.tools.ToolProvider;

/** Rules 8 and 11 of ../shared/LANGUAGE.md: how deep calls go. It is run from the project's folder. */
public final class CallDepthTest {
    private static final String FILE = "src/main/java/RideTie.java";
    private static final int DEEPEST = 8;

    public static void main(String[] args) throws Exception {
        JavaCompiler compiler = ToolProvider.getSystemJavaCompiler();
        StandardJavaFileManager files = compiler.getStandardFileManager(null, null, null);
        JavacTask task = (JavacTask) compiler.getTask(null, files, null, List.of("-proc:none"), null,
            files.getJavaFileObjects(new File(FILE)));
        List<CompilationUnitTree> units = new ArrayList<>();
        task.parse().forEach(units::add);
        task.analyze();
        Graph graph = new Graph(Trees.instance(task));
        for (CompilationUnitTree unit : units) {
            graph.scan(unit, null);
        }
        int deepest = 0;
        for (Element method : graph.calls.keySet()) {
            List<Element> chain = graph.longestFrom(method, new HashSet<>());
            Checks.hold(chain + " goes eight deep at most", chain.size() <= DEEPEST);
            deepest = Math.max(deepest, chain.size());
        }
        Checks.hold("the calls were found", graph.calls.size() > 100 && deepest > 5);
        Checks.end();
    }

    /** Of each method (and constructor) those of the file that it calls. */
    private static final class Graph extends TreePathScanner<Void, Void> {
        final Map<Element, Set<Element>> calls = new LinkedHashMap<>();
        private final Trees trees;
        private Element caller;

        Graph(Trees trees) {
            this.trees = trees;
        }

        @Override
        public Void visitClass(ClassTree tree, Void none) {
            Element outer = caller;
            caller = null;
            super.visitClass(tree, none);
            caller = outer;
            return null;
        }

        @Override
        public Void visitMethod(MethodTree tree, Void none) {
            caller = trees.getElement(getCurrentPath());
            calls.computeIfAbsent(caller, it -> new HashSet<>());
            super.visitMethod(tree, none);
            caller = null;
            return null;
        }

        @Override
        public Void visitMethodInvocation(MethodInvocationTree tree, Void none) {
            add(trees.getElement(getCurrentPath()));
            return super.visitMethodInvocation(tree, none);
        }

        @Override
        public Void visitNewClass(NewClassTree tree, Void none) {
            add(trees.getElement(getCurrentPath()));
            return super.visitNewClass(tree, none);
        }

        private void add(Element called) {
            if (caller != null && called != null) {
                calls.get(caller).add(called);
            }
        }

        /** The longest chain of methods of the file; a recursion is gone through once. */
        List<Element> longestFrom(Element method, Set<Element> open) {
            List<Element> longest = new ArrayList<>();
            open.add(method);
            for (Element called : calls.get(method)) {
                if (calls.containsKey(called) && !open.contains(called)) {
                    List<Element> chain = longestFrom(called, open);
                    longest = chain.size() > longest.size() ? chain : longest;
                }
            }
            open.remove(method);
            longest.add(0, method);
            return longest;
        }
    }
}
