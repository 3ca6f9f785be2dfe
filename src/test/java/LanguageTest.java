import com.sun.source.tree.ClassTree;
import com.sun.source.tree.CompilationUnitTree;
import com.sun.source.tree.MethodInvocationTree;
import com.sun.source.tree.MethodTree;
import com.sun.source.tree.NewClassTree;
import com.sun.source.util.JavacTask;
import com.sun.source.util.TreePathScanner;
import com.sun.source.util.Trees;
import java.io.IOException;
import java.nio.file.Path;
import java.util.ArrayList;
import java.util.HashMap;
import java.util.HashSet;
import java.util.List;
import java.util.Map;
import java.util.Set;
import javax.lang.model.element.Element;
import javax.tools.JavaCompiler;
import javax.tools.StandardJavaFileManager;
import javax.tools.ToolProvider;

/** What LANGUAGE.md says of calls: none that comes back to itself, at most eight deep; and where objects are made. */
final class LanguageTest extends Due {
    private static final int DEEP = 8;

    private final Map<Element, Set<Element>> calls = new HashMap<>();
    private final List<String> madeInMethods = new ArrayList<>();

    public static void main(String[] args) throws IOException {
        LanguageTest test = new LanguageTest();
        test.read();
        test.look();
        end();
    }

    private void read() throws IOException {
        JavaCompiler compiler = ToolProvider.getSystemJavaCompiler();
        try (StandardJavaFileManager files = compiler.getStandardFileManager(null, null, null)) {
            var program = files.getJavaFileObjects(Path.of("src/main/java/ReversedLinks.java"));
            JavacTask task = (JavacTask) compiler.getTask(null, files, null, List.of("-proc:none"), null, program);
            Iterable<? extends CompilationUnitTree> units = task.parse();
            task.analyze();
            Trees trees = Trees.instance(task);
            for (CompilationUnitTree unit : units) {
                new Scanner(trees).scan(unit, null);
            }
        }
    }

    private void look() {
        is(1, calls.size() > 100 ? 1 : 0, "methods that were found: " + calls.size());
        for (Element method : calls.keySet()) {
            is(1, depthOf(method, new HashSet<>()) <= DEEP ? 1 : 0, "deeper than it may be, or come back to: " + method);
        }
        for (String made : madeInMethods) {
            is(0, 1, "an object is made by a call: " + made);
        }
    }

    /** How many calls stand open at most, this one too; more than there may be, if one comes back to itself. */
    private int depthOf(Element method, Set<Element> open) {
        if (!open.add(method)) {
            return DEEP + 1;
        }
        int depth = 0;
        for (Element other : calls.getOrDefault(method, Set.of())) {
            depth = Math.max(depth, depthOf(other, open));
        }
        open.remove(method);
        return depth + 1;
    }

    private final class Scanner extends TreePathScanner<Void, Void> {
        private final Trees trees;
        private Element method = null;

        Scanner(Trees trees) {
            this.trees = trees;
        }

        @Override
        public Void visitClass(ClassTree tree, Void none) {
            Element around = method;
            method = null;
            super.visitClass(tree, none);
            method = around;
            return null;
        }

        @Override
        public Void visitMethod(MethodTree tree, Void none) {
            method = trees.getElement(getCurrentPath());
            calls.put(method, new HashSet<>());
            super.visitMethod(tree, none);
            method = null;
            return null;
        }

        @Override
        public Void visitMethodInvocation(MethodInvocationTree tree, Void none) {
            if (method != null) {
                calls.get(method).add(trees.getElement(getCurrentPath()));
            }
            return super.visitMethodInvocation(tree, none);
        }

        @Override
        public Void visitNewClass(NewClassTree tree, Void none) {
            if (method != null) {
                madeInMethods.add(method + ": " + tree);
            }
            return super.visitNewClass(tree, none);
        }
    }
}
