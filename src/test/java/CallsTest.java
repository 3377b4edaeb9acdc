import com.sun.source.tree.CompilationUnitTree;
import com.sun.source.tree.MethodInvocationTree;
import com.sun.source.tree.MethodTree;
import com.sun.source.tree.NewClassTree;
import com.sun.source.util.JavacTask;
import com.sun.source.util.TreePathScanner;
import com.sun.source.util.Trees;
import java.io.File;
import java.io.IOException;
import java.util.ArrayList;
import java.util.List;
import java.util.Map;
import java.util.Set;
import java.util.TreeMap;
import java.util.TreeSet;
import javax.lang.model.element.Element;
import javax.tools.JavaCompiler;
import javax.tools.StandardJavaFileManager;
import javax.tools.ToolProvider;

/** Rules 4, 8 and 11 of LANGUAGE.md: what of the library is called, that no method calls itself, how deep calls go. */
public final class CallsTest {
    private static final String PROGRAM = "src/main/java/StructureSearch.java";
    // All of these stand in rule 4 by their own names; Object's constructor is called by each constructor unseen.
    private static final Set<String> LIBRARY = Set.of("java.lang.Math.max(int,int)", "java.lang.Math.max(long,long)",
        "java.lang.Math.min(int,int)", "java.lang.Math.min(long,long)", "java.lang.Integer.bitCount(int)",
        "java.lang.Long.bitCount(long)", "java.lang.Object.Object()",
        "java.lang.System.arraycopy(java.lang.Object,int,java.lang.Object,int,int)");
    private static final int DEEPEST = 8;

    private final Map<String, Set<String>> calls = new TreeMap<>();

    public static void main(String[] args) throws IOException {
        Check check = new Check();
        CallsTest test = new CallsTest();
        test.read();
        check.holds("the program is read", test.calls.size() > 50);
        for (String method : test.calls.keySet()) {
            for (String called : test.calls.get(method)) {
                boolean known = test.calls.containsKey(called) || LIBRARY.contains(called);
                check.holds("4: " + method + " calls " + called, known);
            }
            List<String> chain = test.longestChain(method, new ArrayList<>());
            check.holds("8: no call comes back from " + method, !chain.isEmpty());
            check.holds("11: eight deep at most: " + chain, chain.size() <= DEEPEST);
        }
        check.end();
    }

    private void read() throws IOException {
        JavaCompiler compiler = ToolProvider.getSystemJavaCompiler();
        try (StandardJavaFileManager files = compiler.getStandardFileManager(null, null, null)) {
            JavacTask task = (JavacTask) compiler.getTask(null, files, null, List.of("--release", "17"), null,
                files.getJavaFileObjects(new File(PROGRAM)));
            Iterable<? extends CompilationUnitTree> units = task.parse();
            task.analyze();
            for (CompilationUnitTree unit : units) new Reader(Trees.instance(task)).scan(unit, null);
        }
    }

    /** The most calls that stand open at once from a method on, it being the first; empty if a call comes back. */
    private List<String> longestChain(String method, List<String> open) {
        if (open.contains(method)) return List.of();
        open.add(method);
        List<String> longest = List.of();
        boolean comesBack = false;
        for (String called : calls.getOrDefault(method, Set.of())) {
            List<String> chain = longestChain(called, open);
            comesBack |= chain.isEmpty();
            if (chain.size() > longest.size()) longest = chain;
        }
        open.remove(open.size() - 1);
        if (comesBack) return List.of();
        List<String> whole = new ArrayList<>(List.of(method));
        whole.addAll(longest);
        return whole;
    }

    /** Notes for each method of the program which others it calls. */
    private final class Reader extends TreePathScanner<Void, Void> {
        private final Trees trees;
        private Set<String> here = new TreeSet<>();

        Reader(Trees trees) {
            this.trees = trees;
        }

        private String told() {
            Element e = trees.getElement(getCurrentPath());
            return e.getEnclosingElement() + "." + e;
        }

        @Override
        public Void visitMethod(MethodTree tree, Void none) {
            here = calls.computeIfAbsent(told(), key -> new TreeSet<>());
            return super.visitMethod(tree, none);
        }

        @Override
        public Void visitMethodInvocation(MethodInvocationTree tree, Void none) {
            here.add(told());
            return super.visitMethodInvocation(tree, none);
        }

        @Override
        public Void visitNewClass(NewClassTree tree, Void none) {
            here.add(told());
            return super.visitNewClass(tree, none);
        }
    }
}
