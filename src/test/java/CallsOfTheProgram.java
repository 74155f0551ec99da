import com.sun.source.tree.CompilationUnitTree;
import com.sun.source.tree.MethodInvocationTree;
import com.sun.source.tree.MethodTree;
import com.sun.source.tree.NewClassTree;
import com.sun.source.tree.Tree;
import com.sun.source.util.JavacTask;
import com.sun.source.util.TreePathScanner;
import com.sun.source.util.Trees;
import java.io.IOException;
import java.io.UncheckedIOException;
import java.nio.file.Path;
import java.util.ArrayList;
import java.util.LinkedHashMap;
import java.util.LinkedHashSet;
import java.util.List;
import java.util.Map;
import java.util.Set;
import javax.lang.model.element.Element;
import javax.tools.JavaCompiler;
import javax.tools.StandardJavaFileManager;
import javax.tools.ToolProvider;

/** Which method of the program calls which, as the compiler reads them: rules 8 and 11 of ../shared/LANGUAGE.md. */
final class CallsOfTheProgram {
    private static final Path SOURCE = Path.of("src/main/java/TaskSheets.java");
    private static final int DEEPEST = 8;
    private static final int LONGEST_METHOD = 60;

    private final Map<Element, Set<Element>> callees = new LinkedHashMap<>();
    private final Map<Element, Long> lines = new LinkedHashMap<>();

    private CallsOfTheProgram() {
    }

    static void run() {
        CallsOfTheProgram calls = new CallsOfTheProgram();
        calls.read();
        Due.test("rule 8: no method comes back to itself", calls::recursion);
        Due.test("rule 11: calls go at most eight deep", calls::depth);
        Due.test("rule 11: methods stay short", calls::lengths);
    }

    private void read() {
        JavaCompiler compiler = ToolProvider.getSystemJavaCompiler();
        try (StandardJavaFileManager files = compiler.getStandardFileManager(null, null, null)) {
            JavacTask task = (JavacTask) compiler.getTask(null, files, null, List.of("-proc:none"), null,
                files.getJavaFileObjects(SOURCE));
            Iterable<? extends CompilationUnitTree> units = task.parse();
            task.analyze();
            for (CompilationUnitTree unit : units) {
                new Reader(unit, Trees.instance(task)).scan(unit, null);
            }
        } catch (IOException e) {
            throw new UncheckedIOException(e);
        }
    }

    /** Notes each call of a method or constructor under the method in which it stands. */
    private final class Reader extends TreePathScanner<Void, Element> {
        private final CompilationUnitTree unit;
        private final Trees trees;

        Reader(CompilationUnitTree unit, Trees trees) {
            this.unit = unit;
            this.trees = trees;
        }

        @Override
        public Void visitMethod(MethodTree method, Element outer) {
            Element element = trees.getElement(getCurrentPath());
            callees.put(element, new LinkedHashSet<>());
            lines.put(element, lineOf(trees.getSourcePositions().getEndPosition(unit, method))
                - lineOf(trees.getSourcePositions().getStartPosition(unit, method)) + 1);
            return super.visitMethod(method, element);
        }

        @Override
        public Void visitMethodInvocation(MethodInvocationTree call, Element caller) {
            note(caller, call);
            return super.visitMethodInvocation(call, caller);
        }

        @Override
        public Void visitNewClass(NewClassTree call, Element caller) {
            note(caller, call);
            return super.visitNewClass(call, caller);
        }

        private void note(Element caller, Tree call) {
            if (caller != null) {
                callees.get(caller).add(trees.getElement(getCurrentPath()));
            }
        }

        private long lineOf(long position) {
            return unit.getLineMap().getLineNumber(position);
        }
    }

    private void recursion() {
        Due.isTrue("the methods were read", callees.size() > 28);
        for (Element method : callees.keySet()) {
            Due.equal("ways of " + method + " back to itself", wayBack(method), List.of());
        }
    }

    private List<Element> wayBack(Element method) {
        Set<Element> reached = new LinkedHashSet<>();
        List<Element> open = new ArrayList<>(callees.get(method));
        while (!open.isEmpty()) {
            Element next = open.remove(open.size() - 1);
            if (next.equals(method)) {
                return List.of(method);
            }
            if (reached.add(next)) {
                open.addAll(callees.getOrDefault(next, Set.of()));
            }
        }
        return List.of();
    }

    private void depth() {
        // Round by round, so that a recursion, should there be one, ends this too.
        Map<Element, Integer> depths = new LinkedHashMap<>();
        int deepest = 0;
        for (int round = 0; round <= DEEPEST; round++) {
            for (Element method : callees.keySet()) {
                int below = 0;
                for (Element callee : callees.get(method)) {
                    below = Math.max(below, depths.getOrDefault(callee, 1));
                }
                depths.put(method, 1 + below);
                deepest = Math.max(deepest, 1 + below);
            }
        }
        Due.isTrue("the deepest call is " + deepest + " deep", deepest <= DEEPEST);
        Due.isTrue("the calls were read, " + deepest + " deep", deepest > 3);
    }

    private void lengths() {
        for (Map.Entry<Element, Long> method : lines.entrySet()) {
            Due.isTrue(method.getKey() + " has " + method.getValue() + " lines", method.getValue() <= LONGEST_METHOD);
        }
    }
}
