import com.sun.source.tree.MethodInvocationTree;
import com.sun.source.tree.MethodTree;
import com.sun.source.tree.NewClassTree;
import com.sun.source.tree.VariableTree;
import com.sun.source.util.JavacTask;
import com.sun.source.util.TreePathScanner;
import com.sun.source.util.Trees;
import java.io.IOException;
import java.nio.file.Path;
import java.util.ArrayList;
import java.util.List;
import java.util.Map;
import java.util.Set;
import java.util.TreeMap;
import java.util.TreeSet;
import javax.lang.model.element.Element;
import javax.tools.JavaCompiler;
import javax.tools.StandardJavaFileManager;
import javax.tools.ToolProvider;

/** What LANGUAGE.md asks of types and of calls (rules 3, 4, 8, 11), as the compiler itself reads the source. */
public final class CallsTest {
    private static final Path SOURCE = Path.of("src/main/java/FoldPress.java");
    private static final String OWN_METHOD = "FoldPress(\\.\\w+)?\\..*";
    private static final String TYPE = "(int|boolean|FoldPress\\.\\w+)(\\[\\])?";
    // Of what rule 4 lists, the class needs no more; a call that is not here has to be looked up there.
    private static final Set<String> LIBRARY = Set.of("java.lang.Object.Object()", "java.lang.Math.max(int,int)",
        "java.lang.Math.min(int,int)", "java.lang.Math.floorMod(int,int)");
    // Its depth is an argument, and the document's limit of 8 folds in a CROSS keeps it low.
    private static final Set<String> RECURSIVE = Set.of("FoldPress.Folds.perform(int,int)");
    private static final int MOST_DEEP = 8;

    private static final Due T = new Due();

    /** Gathers which method calls which, and looks at the type of every variable on the way. */
    private static final class Reader extends TreePathScanner<Void, Trees> {
        final Map<String, Set<String>> calls = new TreeMap<>();
        private String caller = null;

        private static String nameOf(Element method) {
            return method.getEnclosingElement() + "." + method;
        }

        private void call(Trees trees) {
            Element called = trees.getElement(getCurrentPath());
            T.holds(called != null, "a call of nothing known in " + caller);
            if (caller != null && called != null) {
                calls.get(caller).add(nameOf(called));
            }
        }

        @Override
        public Void visitMethod(MethodTree method, Trees trees) {
            caller = nameOf(trees.getElement(getCurrentPath()));
            calls.put(caller, new TreeSet<>());
            super.visitMethod(method, trees);
            caller = null;
            return null;
        }

        @Override
        public Void visitMethodInvocation(MethodInvocationTree invocation, Trees trees) {
            call(trees);
            return super.visitMethodInvocation(invocation, trees);
        }

        @Override
        public Void visitNewClass(NewClassTree made, Trees trees) {
            call(trees);
            T.holds(caller == null || caller.matches("FoldPress(\\.\\w+)?\\.[A-Z]\\w*\\(.*"), caller + " makes an object");
            return super.visitNewClass(made, trees);
        }

        @Override
        public Void visitVariable(VariableTree variable, Trees trees) {
            String type = String.valueOf(trees.getTypeMirror(getCurrentPath()));
            T.holds(type.matches(TYPE), variable.getName() + " is of the type " + type);
            return super.visitVariable(variable, trees);
        }
    }

    private static Map<String, Set<String>> readCalls() throws IOException {
        JavaCompiler compiler = ToolProvider.getSystemJavaCompiler();
        try (StandardJavaFileManager files = compiler.getStandardFileManager(null, null, null)) {
            JavacTask task = (JavacTask) compiler.getTask(null, files, null, List.of("-proc:none"), null,
                files.getJavaFileObjects(SOURCE));
            Reader reader = new Reader();
            var units = task.parse();
            task.analyze();
            reader.scan(units, Trees.instance(task));
            return reader.calls;
        }
    }

    private static void libraryAndRecursion(Map<String, Set<String>> calls) {
        for (Map.Entry<String, Set<String>> caller : calls.entrySet()) {
            for (String called : caller.getValue()) {
                boolean own = called.matches(OWN_METHOD);
                T.holds(own || LIBRARY.contains(called), caller.getKey() + " calls " + called);
            }
            T.holds(!reached(calls, caller.getKey()).contains(caller.getKey()) || RECURSIVE.contains(caller.getKey()),
                caller.getKey() + " comes to call itself");
        }
    }

    /** All methods that stand open at some time while a method does. */
    private static Set<String> reached(Map<String, Set<String>> calls, String method) {
        Set<String> reached = new TreeSet<>();
        List<String> open = new ArrayList<>(List.of(method));
        while (!open.isEmpty()) {
            for (String called : calls.getOrDefault(open.remove(open.size() - 1), Set.of())) {
                if (reached.add(called)) {
                    open.add(called);
                }
            }
        }
        return reached;
    }

    /** The longest chain of calls from a method on; one that calls itself counts once. */
    private static List<String> deepest(Map<String, Set<String>> calls, List<String> chain) {
        List<String> longest = chain;
        for (String called : calls.getOrDefault(chain.get(chain.size() - 1), Set.of())) {
            if (!chain.contains(called)) {
                List<String> longer = new ArrayList<>(chain);
                longer.add(called);
                List<String> found = deepest(calls, longer);
                longest = found.size() > longest.size() ? found : longest;
            }
        }
        return longest;
    }

    public static void main(String[] args) throws IOException {
        Map<String, Set<String>> calls = readCalls();
        T.holds(calls.containsKey("FoldPress.undo()") && calls.containsKey("FoldPress.FoldPress()"), "no calls were read");
        libraryAndRecursion(calls);
        for (String method : calls.keySet()) {
            List<String> chain = deepest(calls, List.of(method));
            T.holds(chain.size() <= MOST_DEEP, chain.size() + " calls stand open at once: " + chain);
        }
        T.end();
    }
}
