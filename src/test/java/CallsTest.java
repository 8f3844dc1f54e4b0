import com.sun.source.tree.CompilationUnitTree;
import com.sun.source.tree.MethodInvocationTree;
import com.sun.source.tree.MethodTree;
import com.sun.source.tree.NewClassTree;
import com.sun.source.tree.Tree;
import com.sun.source.util.JavacTask;
import com.sun.source.util.TreePathScanner;
import com.sun.source.util.Trees;
import java.io.IOException;
import java.util.ArrayList;
import java.util.HashMap;
import java.util.HashSet;
import java.util.LinkedHashMap;
import java.util.LinkedHashSet;
import java.util.List;
import java.util.Map;
import java.util.Set;
import java.util.TreeSet;
import java.util.stream.Collectors;
import javax.lang.model.element.Element;
import javax.lang.model.element.ElementKind;
import javax.lang.model.element.TypeElement;
import javax.tools.JavaCompiler;
import javax.tools.StandardJavaFileManager;
import javax.tools.ToolProvider;

/** Rules 4, 8 and 11 of LANGUAGE.md: what the program calls, as the compiler sees it. */
public final class CallsTest {
    private static final String PROGRAM = "src/main/java/NinepinAlley.java";
    private static final int DEEPEST = 8;
    private static final Set<String> LIBRARY = Set.of("Object.<init>", "String.length", "String.charAt",
            "Math.max", "Math.min", "Math.floorDiv", "Integer.bitCount", "Integer.signum");
    /** Each has what keeps it low: brackets that are open, rolls of a frame, fills. */
    private static final Set<String> RECURSIONS = Set.of("Reader.both, Reader.fact, Reader.test",
            "Reader.pair, Reader.part, Reader.product, Reader.sum", "Outlook.playFrame", "Outlook.playFills");

    private final Map<Element, Set<Element>> calls = new LinkedHashMap<>();
    private final Set<String> library = new TreeSet<>();
    private final Map<Element, Set<Element>> reached = new HashMap<>();
    private final Map<Element, Integer> depths = new HashMap<>();

    private static String name(Element method) {
        return method.getEnclosingElement().getSimpleName() + "." + method.getSimpleName();
    }

    private static boolean isOwn(Element method) {
        Element e = method;
        while (e.getEnclosingElement().getKind() != ElementKind.PACKAGE) {
            e = e.getEnclosingElement();
        }
        return ((TypeElement) e).getQualifiedName().contentEquals("NinepinAlley");
    }

    private final class Scanner extends TreePathScanner<Void, Element> {
        private final Trees trees;

        Scanner(Trees trees) {
            this.trees = trees;
        }

        private void found(Element from) {
            Element to = trees.getElement(getCurrentPath());
            if (!isOwn(to)) {
                library.add(name(to));
            } else if (from != null) {
                calls.get(from).add(to);
            }
        }

        @Override
        public Void visitMethod(MethodTree tree, Element outer) {
            Element method = trees.getElement(getCurrentPath());
            calls.putIfAbsent(method, new LinkedHashSet<>());
            return super.visitMethod(tree, method);
        }

        @Override
        public Void visitMethodInvocation(MethodInvocationTree tree, Element from) {
            found(from);
            return super.visitMethodInvocation(tree, from);
        }

        @Override
        public Void visitNewClass(NewClassTree tree, Element from) {
            found(from);
            return super.visitNewClass(tree, from);
        }
    }

    private void read() throws IOException {
        JavaCompiler compiler = ToolProvider.getSystemJavaCompiler();
        try (StandardJavaFileManager files = compiler.getStandardFileManager(null, null, null)) {
            JavacTask task = (JavacTask) compiler.getTask(null, files, null, List.of("-proc:none"), null,
                    files.getJavaFileObjects(PROGRAM));
            Iterable<? extends CompilationUnitTree> units = task.parse();
            task.analyze();
            Scanner scanner = new Scanner(Trees.instance(task));
            for (Tree unit : units) {
                scanner.scan((CompilationUnitTree) unit, null);
            }
        }
    }

    private Set<Element> reachedFrom(Element from) {
        Set<Element> known = reached.get(from);
        if (known != null) {
            return known;
        }
        Set<Element> all = new HashSet<>();
        List<Element> open = new ArrayList<>(calls.getOrDefault(from, Set.of()));
        while (!open.isEmpty()) {
            Element next = open.remove(open.size() - 1);
            if (all.add(next)) {
                open.addAll(calls.getOrDefault(next, Set.of()));
            }
        }
        reached.put(from, all);
        return all;
    }

    /** Methods that call one another, round and round; one that does not is alone. */
    private Set<Element> group(Element method) {
        Set<Element> all = new HashSet<>(Set.of(method));
        for (Element other : reachedFrom(method)) {
            if (reachedFrom(other).contains(method)) {
                all.add(other);
            }
        }
        return all;
    }

    /** How deep calls go from a method on; methods of one recursion are one level. */
    private int depth(Element method) {
        Integer known = depths.get(method);
        if (known != null) {
            return known;
        }
        Set<Element> together = group(method);
        int below = 0;
        for (Element one : together) {
            for (Element next : calls.getOrDefault(one, Set.of())) {
                below = together.contains(next) ? below : Math.max(below, depth(next));
            }
        }
        depths.put(method, below + 1);
        return below + 1;
    }

    private void look() {
        for (String name : library) {
            Check.due("rule 4: " + name + " may be called", LIBRARY.contains(name), true);
        }
        Set<String> recursions = new TreeSet<>();
        for (Element method : calls.keySet()) {
            Check.due("rule 11: " + name(method) + " goes deeper than " + DEEPEST, depth(method) > DEEPEST, false);
            if (reachedFrom(method).contains(method)) {
                recursions.add(group(method).stream().map(CallsTest::name).sorted().collect(Collectors.joining(", ")));
            }
        }
        for (String names : recursions) {
            Check.due("rule 8: a recursion of " + names, RECURSIONS.contains(names), true);
        }
        Check.due("methods were found", calls.size() > 100, true);
    }

    public static void main(String[] args) throws IOException {
        CallsTest test = new CallsTest();
        test.read();
        test.look();
        Check.end();
    }
}
