import com.sun.source.tree.ClassTree;
import com.sun.source.tree.CompilationUnitTree;
import com.sun.source.tree.MethodInvocationTree;
import com.sun.source.tree.MethodTree;
import com.sun.source.tree.NewClassTree;
import com.sun.source.util.JavacTask;
import com.sun.source.util.TreePathScanner;
import com.sun.source.util.Trees;
import java.io.IOException;
import java.nio.file.Path;
import java.util.HashSet;
import java.util.List;
import java.util.Map;
import java.util.Set;
import java.util.TreeMap;
import java.util.TreeSet;
import javax.lang.model.element.Element;
import javax.lang.model.element.TypeElement;
import javax.tools.JavaCompiler;
import javax.tools.StandardJavaFileManager;
import javax.tools.ToolProvider;

/** Rules 4, 8 and 11 of LANGUAGE.md: which library is called, who calls itself, how deep the calls go. */
public final class CallsTest {
    /** The library that LANGUAGE.md lists, as far as anything of it is of use here. */
    private static final Set<String> LIBRARY = Set.of("java.lang.String.length", "java.lang.String.charAt", "java.lang.String.indexOf", "java.lang.Math.max",
        "java.lang.Math.min", "java.lang.Math.abs", "java.lang.System.arraycopy", "java.util.Arrays.copyOf", "java.util.Arrays.fill");
    private static final Set<String> RECURSIVE = Set.of("ShyWell.Reader.readsLevel", "ShyWell.Reader.readsPiece");

    private static final Map<String, Set<String>> CALLS = new TreeMap<>();
    private static final Set<String> OUTSIDE = new TreeSet<>();

    public static void main(String[] args) throws IOException {
        look();
        Due.holds("calls were found", CALLS.size() > 60 && CALLS.get("ShyWell.run").contains("ShyWell.Scene.advance"));
        for (String name : OUTSIDE) Due.holds("the library has " + name, LIBRARY.contains(name));
        for (String name : CALLS.keySet()) {
            Due.holds(name + " calls itself", reaches(name, name, new HashSet<>()) == RECURSIVE.contains(name));
            int deep = depth(name, Set.of());
            Due.holds(name + " goes " + deep + " deep", deep <= 8);
        }
        Due.end();
    }

    private static void look() throws IOException {
        JavaCompiler compiler = ToolProvider.getSystemJavaCompiler();
        try (StandardJavaFileManager files = compiler.getStandardFileManager(null, null, null)) {
            JavacTask task = (JavacTask) compiler.getTask(null, files, null, List.of("-proc:none"), null, files.getJavaFileObjects(Path.of("src/main/java/ShyWell.java")));
            Iterable<? extends CompilationUnitTree> units = task.parse();
            task.analyze();
            for (CompilationUnitTree unit : units) new Finder(Trees.instance(task)).scan(unit, null);
        }
    }

    private static final class Finder extends TreePathScanner<Void, Void> {
        private final Trees trees;
        private String type = "", method = "";

        private Finder(Trees trees) {
            this.trees = trees;
        }

        @Override public Void visitClass(ClassTree tree, Void none) {
            String outer = type;
            type = trees.getElement(getCurrentPath()).toString();
            super.visitClass(tree, none);
            type = outer;
            return null;
        }

        @Override public Void visitMethod(MethodTree tree, Void none) {
            method = type + "." + tree.getName();
            CALLS.computeIfAbsent(method, m -> new TreeSet<>());
            super.visitMethod(tree, none);
            // What stands outside of methods is worked out by the constructor.
            method = type + ".<init>";
            return null;
        }

        @Override public Void visitMethodInvocation(MethodInvocationTree tree, Void none) {
            called();
            return super.visitMethodInvocation(tree, none);
        }

        @Override public Void visitNewClass(NewClassTree tree, Void none) {
            called();
            return super.visitNewClass(tree, none);
        }

        private void called() {
            Element to = trees.getElement(getCurrentPath());
            String owner = ((TypeElement) to.getEnclosingElement()).getQualifiedName().toString();
            String name = owner + "." + to.getSimpleName();
            if (owner.startsWith("ShyWell")) CALLS.computeIfAbsent(method, m -> new TreeSet<>()).add(name);
            else if (!owner.equals("java.lang.Object")) OUTSIDE.add(name);
        }
    }

    private static boolean reaches(String from, String to, Set<String> seen) {
        for (String next : CALLS.getOrDefault(from, Set.of())) {
            if (next.equals(to) || seen.add(next) && reaches(next, to, seen)) return true;
        }
        return false;
    }

    /** How many calls stand open at most, each method that calls itself counted once. */
    private static int depth(String name, Set<String> open) {
        Set<String> now = new HashSet<>(open);
        now.add(name);
        int deepest = 0;
        for (String next : CALLS.getOrDefault(name, Set.of())) {
            if (!now.contains(next)) deepest = Math.max(deepest, depth(next, now));
        }
        return 1 + deepest;
    }
}
