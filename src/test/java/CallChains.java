import com.sun.source.tree.CompilationUnitTree;
import com.sun.source.tree.MethodInvocationTree;
import com.sun.source.tree.MethodTree;
import com.sun.source.tree.NewClassTree;
import com.sun.source.util.JavacTask;
import com.sun.source.util.TreePathScanner;
import com.sun.source.util.Trees;
import java.io.IOException;
import java.nio.file.Path;
import java.util.ArrayList;
import java.util.LinkedHashSet;
import java.util.List;
import java.util.Map;
import java.util.Set;
import java.util.TreeMap;
import java.util.TreeSet;
import javax.lang.model.element.Element;
import javax.tools.JavaCompiler;
import javax.tools.StandardJavaFileManager;
import javax.tools.ToolProvider;

/** Which method of a source calls which, as the compiler sees it; the library's own calls count as calls, too. */
final class CallChains {
    private final Map<String, Set<String>> calls = new TreeMap<>();

    CallChains(Path source) throws IOException {
        JavaCompiler compiler = ToolProvider.getSystemJavaCompiler();
        try (StandardJavaFileManager files = compiler.getStandardFileManager(null, null, null)) {
            List<String> options = List.of("-proc:none");
            JavacTask task = (JavacTask) compiler.getTask(null, files, null, options, null, files.getJavaFileObjects(source));
            Iterable<? extends CompilationUnitTree> units = task.parse();
            task.analyze();
            Trees trees = Trees.instance(task);
            for (CompilationUnitTree unit : units) {
                new Reader(trees).scan(unit, "fields");
            }
        }
    }

    private final class Reader extends TreePathScanner<Void, String> {
        private final Trees trees;

        Reader(Trees trees) {
            this.trees = trees;
        }

        private String seen() {
            Element element = trees.getElement(getCurrentPath());
            return element.getEnclosingElement().getSimpleName() + "." + element;
        }

        @Override
        public Void visitMethod(MethodTree method, String caller) {
            calls.putIfAbsent(seen(), new TreeSet<>());
            return super.visitMethod(method, seen());
        }

        @Override
        public Void visitMethodInvocation(MethodInvocationTree call, String caller) {
            calls.computeIfAbsent(caller, k -> new TreeSet<>()).add(seen());
            return super.visitMethodInvocation(call, caller);
        }

        @Override
        public Void visitNewClass(NewClassTree call, String caller) {
            calls.computeIfAbsent(caller, k -> new TreeSet<>()).add(seen());
            return super.visitNewClass(call, caller);
        }
    }

    Set<String> methods() {
        return calls.keySet();
    }

    /** The longest row of calls that begins with a method; one that calls itself, by whatever way, stands there once. */
    List<String> longest(String method) {
        return longest(method, new LinkedHashSet<>());
    }

    private List<String> longest(String method, LinkedHashSet<String> open) {
        open.add(method);
        List<String> best = new ArrayList<>(open);
        for (String next : calls.getOrDefault(method, Set.of())) {
            if (!open.contains(next)) {
                List<String> row = longest(next, open);
                best = row.size() > best.size() ? row : best;
            }
        }
        open.remove(method);
        return best;
    }

    /** The methods that come again behind themselves. */
    Set<String> recursive() {
        Set<String> found = new TreeSet<>();
        for (String method : calls.keySet()) {
            Set<String> behind = new TreeSet<>();
            gather(method, behind);
            if (behind.contains(method)) {
                found.add(method.replaceAll("\\(.*", ""));
            }
        }
        return found;
    }

    private void gather(String method, Set<String> behind) {
        for (String next : calls.getOrDefault(method, Set.of())) {
            if (behind.add(next)) {
                gather(next, behind);
            }
        }
    }

    boolean callsItself(String method) {
        return calls.get(method).contains(method);
    }
}
