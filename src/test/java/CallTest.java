import com.sun.source.tree.ClassTree;
import com.sun.source.tree.CompilationUnitTree;
import com.sun.source.tree.MethodInvocationTree;
import com.sun.source.tree.MethodTree;
import com.sun.source.tree.NewClassTree;
import com.sun.source.util.JavacTask;
import com.sun.source.util.TreePathScanner;
import com.sun.source.util.Trees;
import java.io.IOException;
import java.nio.file.Path;
import java.util.ArrayList;
import java.util.HashMap;
import java.util.HashSet;
import java.util.List;
import java.util.Map;
import java.util.Set;
import java.util.TreeMap;
import java.util.TreeSet;
import javax.lang.model.element.Element;
import javax.lang.model.element.ElementKind;
import javax.lang.model.element.Modifier;
import javax.lang.model.element.TypeElement;
import javax.tools.JavaCompiler;
import javax.tools.StandardJavaFileManager;
import javax.tools.ToolProvider;

/** Who calls whom in the class, as the compiler sees it: how deep calls go, which go round, and what of the library. */
public final class CallTest {
    private static final String MAIN = "src/main/java/MiddleScale.java";
    /** LANGUAGE.md, rule 11. */
    private static final int DEEPEST = 8;
    /** LANGUAGE.md, rule 8: all of these carry a level, of which there are 40; what else calls itself must be looked at. */
    private static final String ROUND = "[Fitting.proofOf, Learner.canLearn, Learner.isEnough, Walk.go]";
    /** LANGUAGE.md, rule 4, as far as the class needs it. */
    private static final String LIBRARY = "java.lang.String.(length|charAt|isEmpty|equals|indexOf|substring|toCharArray)"
        + "|java.lang.(Integer|Long).(bitCount|compare|max|min)|java.lang.Math.(max|min|abs|floorDiv|floorMod)"
        + "|java.lang.System.arraycopy|java.util.Arrays.(copyOf|copyOfRange|fill)"
        + "|java.(lang|util).(IllegalState|IllegalArgument|IndexOutOfBounds|Arithmetic|UnsupportedOperation|NoSuchElement"
        + "|Runtime)Exception.<init>|java.lang.Object.<init>";

    private static final Due DUE = new Due();
    private static final Map<String, Set<String>> CALLS = new TreeMap<>();
    private static final Set<String> FACE = new TreeSet<>();
    private static final Map<String, List<String>> WAYS = new HashMap<>();

    public static void main(String[] args) throws IOException {
        readCalls();
        DUE.is("the face and its constructor", FACE.size(), 50);
        library();
        DUE.is("what calls itself", round().toString(), ROUND);
        for (String method : FACE) {
            List<String> way = deepest(method);
            DUE.is("at most eight deep: " + String.join(" > ", way), way.size() <= DEEPEST, true);
        }
        DUE.end();
    }

    private static void readCalls() throws IOException {
        JavaCompiler compiler = ToolProvider.getSystemJavaCompiler();
        try (StandardJavaFileManager files = compiler.getStandardFileManager(null, null, null)) {
            JavacTask task = (JavacTask) compiler.getTask(null, files, null, List.of("-proc:none"), null,
                files.getJavaFileObjects(Path.of(MAIN)));
            Iterable<? extends CompilationUnitTree> units = task.parse();
            task.analyze();
            for (CompilationUnitTree unit : units) {
                new Scanner(Trees.instance(task)).scan(unit, null);
            }
        }
    }

    /** The tree's second value is the method that is being read, or the constructor for what fields begin with. */
    private static final class Scanner extends TreePathScanner<Void, String> {
        private final Trees trees;

        Scanner(Trees trees) {
            this.trees = trees;
        }

        @Override
        public Void visitClass(ClassTree tree, String outer) {
            return super.visitClass(tree, name((TypeElement) trees.getElement(getCurrentPath())) + ".<init>");
        }

        @Override
        public Void visitMethod(MethodTree tree, String outer) {
            Element method = trees.getElement(getCurrentPath());
            if (method.getModifiers().contains(Modifier.PUBLIC)) {
                FACE.add(name(method));
            }
            CALLS.computeIfAbsent(name(method), k -> new TreeSet<>());
            return super.visitMethod(tree, name(method));
        }

        @Override
        public Void visitMethodInvocation(MethodInvocationTree tree, String from) {
            add(from);
            return super.visitMethodInvocation(tree, from);
        }

        @Override
        public Void visitNewClass(NewClassTree tree, String from) {
            add(from);
            return super.visitNewClass(tree, from);
        }

        private void add(String from) {
            CALLS.computeIfAbsent(from, k -> new TreeSet<>()).add(name(trees.getElement(getCurrentPath())));
        }
    }

    /** Without the outer class's name, if it is one of the class's own. */
    private static String name(Element e) {
        boolean type = e.getKind().isClass() || e.getKind().isInterface();
        String own = type ? ((TypeElement) e).getQualifiedName().toString() : e.getSimpleName().toString();
        String whole = type || e.getKind() == ElementKind.PACKAGE ? own : name(e.getEnclosingElement()) + "." + own;
        return whole.replaceFirst("^MiddleScale\\.(?=[A-Z])", "");
    }

    private static void library() {
        for (Set<String> called : CALLS.values()) {
            for (String method : called) {
                boolean fine = CALLS.containsKey(method) || method.matches(LIBRARY);
                DUE.is("of the library: " + method, fine, true);
            }
        }
    }

    /** All methods from which a way of calls leads back to themselves. */
    private static Set<String> round() {
        Set<String> found = new TreeSet<>();
        for (String method : CALLS.keySet()) {
            if (reached(method).contains(method)) {
                found.add(method);
            }
        }
        return found;
    }

    private static Set<String> reached(String from) {
        Set<String> found = new HashSet<>();
        List<String> open = new ArrayList<>(CALLS.getOrDefault(from, Set.of()));
        while (!open.isEmpty()) {
            String method = open.remove(open.size() - 1);
            if (found.add(method)) {
                open.addAll(CALLS.getOrDefault(method, Set.of()));
            }
        }
        return found;
    }

    /** The longest way of calls from a method on, into the library too; those that call one another count once each. */
    private static List<String> deepest(String from) {
        List<String> known = WAYS.get(from);
        if (known != null) {
            return known;
        }
        Set<String> called = new TreeSet<>(CALLS.getOrDefault(from, Set.of()));
        List<String> whole = new ArrayList<>(List.of(from));
        for (String other : reached(from)) {
            if (!other.equals(from) && reached(other).contains(from)) {
                whole.add(other);
                called.addAll(CALLS.get(other));
            }
        }
        called.removeAll(whole);
        List<String> best = List.of();
        for (String method : called) {
            best = deepest(method).size() > best.size() ? deepest(method) : best;
        }
        whole.addAll(best);
        WAYS.put(from, whole);
        return whole;
    }
}
