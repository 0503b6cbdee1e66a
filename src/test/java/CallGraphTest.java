import com.sun.source.tree.ClassTree;
import com.sun.source.tree.CompilationUnitTree;
import com.sun.source.tree.MethodInvocationTree;
import com.sun.source.tree.MethodTree;
import com.sun.source.tree.NewArrayTree;
import com.sun.source.tree.NewClassTree;
import com.sun.source.tree.ThrowTree;
import com.sun.source.tree.Tree;
import com.sun.source.util.JavacTask;
import com.sun.source.util.TreePathScanner;
import com.sun.source.util.Trees;
import java.nio.file.Path;
import java.util.HashMap;
import java.util.LinkedHashMap;
import java.util.LinkedHashSet;
import java.util.List;
import java.util.Map;
import java.util.Set;
import javax.lang.model.element.Element;
import javax.lang.model.element.ElementKind;
import javax.lang.model.element.Modifier;
import javax.tools.JavaCompiler;
import javax.tools.StandardJavaFileManager;
import javax.tools.ToolProvider;

/** Rules 4, 6, 8, 11 and 12 of LANGUAGE.md, by the compiler's own reading of the source. Run where src/ is. */
public final class CallGraphTest extends TreePathScanner<Void, Void> {
    private static final int DEEPEST = 8;
    private static final Set<String> LIBRARY = Set.of("java.lang.System.arraycopy", "java.lang.Math.max",
            "java.lang.Math.min", "java.lang.Math.abs", "java.lang.Math.floorMod", "java.lang.Integer.bitCount",
            "java.lang.String.length", "java.lang.String.charAt");

    private final Trees trees;
    /** The methods, by their names with their classes, and what each of them calls. */
    private final Map<String, Set<String>> calls = new LinkedHashMap<>();
    private final Map<String, Integer> depths = new HashMap<>();
    private String method = "";
    private boolean inConstructor = false;

    private CallGraphTest(Trees trees) {
        this.trees = trees;
    }

    public static void main(String[] args) throws Exception {
        JavaCompiler compiler = ToolProvider.getSystemJavaCompiler();
        try (StandardJavaFileManager files = compiler.getStandardFileManager(null, null, null)) {
            JavacTask task = (JavacTask) compiler.getTask(null, files, null, List.of("-proc:none"), null,
                    files.getJavaFileObjects(Path.of("src/main/java/SatelliteExchange.java")));
            CompilationUnitTree unit = task.parse().iterator().next();
            task.analyze();
            CallGraphTest test = new CallGraphTest(Trees.instance(task));
            test.scan(unit, null);
            test.depthsAreSmall();
        }
        Check.end();
    }

    private void depthsAreSmall() {
        Check.that("the methods are found", calls.size() > 100);
        for (String name : calls.keySet()) {
            int depth = depth(name, Set.of());
            Check.that(name + " begins a chain of " + depth + " calls, of at most " + DEEPEST, depth <= DEEPEST);
        }
    }

    /** How many calls stand open at most while this one does, itself too. */
    private int depth(String name, Set<String> open) {
        if (open.contains(name)) {
            Check.that(name + " is no recursion", false);
            return 0;
        }
        if (!depths.containsKey(name)) {
            Set<String> with = new LinkedHashSet<>(open);
            with.add(name);
            int deepest = 0;
            for (String called : calls.getOrDefault(name, Set.of())) {
                deepest = Math.max(deepest, depth(called, with));
            }
            depths.put(name, deepest + 1);
        }
        return depths.get(name);
    }

    @Override
    public Void visitClass(ClassTree tree, Void none) {
        int fields = 0;
        for (Tree member : tree.getMembers()) {
            Element element = trees.getElement(trees.getPath(getCurrentPath().getCompilationUnit(), member));
            if (element != null && element.getKind().isField()) {
                boolean constant = element.getModifiers().contains(Modifier.STATIC);
                Check.that("static field " + element + " is final",
                        !constant || element.getModifiers().contains(Modifier.FINAL));
                fields += constant ? 0 : 1;
            }
        }
        Check.that(tree.getSimpleName() + " has some twenty fields", fields <= 20);
        return super.visitClass(tree, none);
    }

    @Override
    public Void visitMethod(MethodTree tree, Void none) {
        Element element = trees.getElement(getCurrentPath());
        method = nameOf(element);
        inConstructor = tree.getReturnType() == null;
        calls.put(method, new LinkedHashSet<>());
        Check.that(method + " has seven parameters at most", tree.getParameters().size() <= 7);
        super.visitMethod(tree, none);
        method = "";
        inConstructor = false;
        return null;
    }

    @Override
    public Void visitMethodInvocation(MethodInvocationTree tree, Void none) {
        Element element = trees.getElement(getCurrentPath());
        String name = nameOf(element);
        if (name.startsWith("SatelliteExchange")) {
            calls.get(method).add(name);
        } else if (element.getKind() == ElementKind.METHOD) {
            // A constructor here is that of Object, which no line of the source calls.
            Check.that(name + " is of the library that the rules list", LIBRARY.contains(name.replaceAll("\\(.*", "")));
        }
        return super.visitMethodInvocation(tree, none);
    }

    /** Objects are made in constructors and fields alone, but for what is thrown: no later call makes a row. */
    @Override
    public Void visitNewClass(NewClassTree tree, Void none) {
        boolean thrown = getCurrentPath().getParentPath().getLeaf() instanceof ThrowTree;
        Check.that("new " + tree.getIdentifier() + " in " + method, thrown || inConstructor || method.isEmpty());
        return super.visitNewClass(tree, none);
    }

    @Override
    public Void visitNewArray(NewArrayTree tree, Void none) {
        Check.that("a new array in " + method, inConstructor || method.isEmpty());
        return super.visitNewArray(tree, none);
    }

    @Override
    public Void visitThrow(ThrowTree tree, Void none) {
        Check.that("no throw in a constructor: " + method, !inConstructor);
        return super.visitThrow(tree, none);
    }

    private static String nameOf(Element element) {
        return element.getEnclosingElement() + "." + element;
    }
}
