import com.sun.source.tree.ClassTree;
import com.sun.source.tree.CompilationUnitTree;
import com.sun.source.tree.MemberReferenceTree;
import com.sun.source.tree.MethodInvocationTree;
import com.sun.source.tree.MethodTree;
import com.sun.source.tree.NewClassTree;
import com.sun.source.tree.Tree;
import com.sun.source.util.JavacTask;
import com.sun.source.util.TreePathScanner;
import com.sun.source.util.Trees;
import java.io.IOException;
import java.nio.file.Files;
import java.nio.file.Path;
import java.util.ArrayList;
import java.util.HashMap;
import java.util.List;
import java.util.Map;
import java.util.Set;
import java.util.TreeSet;
import javax.lang.model.element.Element;
import javax.lang.model.element.ExecutableElement;
import javax.tools.JavaCompiler;
import javax.tools.StandardJavaFileManager;
import javax.tools.ToolProvider;

/** What of LANGUAGE.md the compiler's own reading of the program shows: which of the library is called, and how deep calls go. The argument: the program's file. */
public final class ShapeTest {
    private static final int MOST_DEEP = 8;
    private static final Set<String> LIBRARY = Set.of("Math.min", "Math.max", "Object.<init>", "NoSuchElementException.<init>");

    private final Map<Element, Set<Element>> callsOf = new HashMap<>();
    private final Map<Element, Integer> depths = new HashMap<>();
    private final List<Element> open = new ArrayList<>();
    private int wrong = 0;

    private void fault(String what) {
        wrong++;
        System.out.println(what);
    }

    private static String nameOf(Element e) {
        return e.getEnclosingElement().getSimpleName() + "." + e.getSimpleName();
    }

    /** Who calls whom; a call out of a field's first value counts as one of the class's constructor. */
    private final class Reader extends TreePathScanner<Void, Element> {
        private final Trees trees;

        Reader(Trees trees) {
            this.trees = trees;
        }

        @Override
        public Void visitClass(ClassTree tree, Element from) {
            Element of = trees.getElement(getCurrentPath());
            Element constructor = null;
            for (Element e : of.getEnclosedElements()) {
                constructor = e.getSimpleName().contentEquals("<init>") ? e : constructor;
            }
            return super.visitClass(tree, constructor);
        }

        @Override
        public Void visitMethod(MethodTree tree, Element from) {
            Element method = trees.getElement(getCurrentPath());
            callsOf.computeIfAbsent(method, m -> new java.util.LinkedHashSet<>());
            return super.visitMethod(tree, method);
        }

        @Override
        public Void visitMethodInvocation(MethodInvocationTree tree, Element from) {
            called(from, trees.getElement(getCurrentPath()));
            return super.visitMethodInvocation(tree, from);
        }

        @Override
        public Void visitNewClass(NewClassTree tree, Element from) {
            called(from, trees.getElement(getCurrentPath()));
            return super.visitNewClass(tree, from);
        }

        @Override
        public Void visitMemberReference(MemberReferenceTree tree, Element from) {
            fault("a method reference in " + from);
            return super.visitMemberReference(tree, from);
        }

        private void called(Element from, Element to) {
            if (from == null || !(to instanceof ExecutableElement)) {
                fault("a call that can't be told: " + from + " of " + to);
                return;
            }
            callsOf.computeIfAbsent(from, m -> new java.util.LinkedHashSet<>()).add(to);
        }
    }

    /** How many calls stand open at most, this one included; the library's own are not counted. */
    private int depthOf(Element method) {
        if (open.contains(method)) {
            fault(nameOf(method) + " comes to call itself");
            return 0;
        }
        if (!depths.containsKey(method)) {
            open.add(method);
            int most = 0;
            for (Element to : callsOf.get(method)) {
                most = Math.max(most, callsOf.containsKey(to) ? depthOf(to) : 0);
            }
            open.remove(method);
            depths.put(method, most + 1);
        }
        return depths.get(method);
    }

    private void readCalls(String file) throws IOException {
        JavaCompiler compiler = ToolProvider.getSystemJavaCompiler();
        StandardJavaFileManager files = compiler.getStandardFileManager(null, null, null);
        Path out = Files.createTempDirectory("shape");
        JavacTask task = (JavacTask) compiler.getTask(null, files, null, List.of("-proc:none", "-d", out.toString()), null,
            files.getJavaFileObjects(file));
        List<CompilationUnitTree> units = new ArrayList<>();
        task.parse().forEach(units::add);
        task.analyze();
        for (CompilationUnitTree unit : units) {
            if (unit.getTypeDecls().size() != 1 || unit.getTypeDecls().get(0).getKind() != Tree.Kind.CLASS) {
                fault("not one class in the file");
            }
            new Reader(Trees.instance(task)).scan(unit, null);
        }
        Files.delete(out);
    }

    private void look() {
        Set<String> others = new TreeSet<>();
        int deepest = 0;
        for (Element method : List.copyOf(callsOf.keySet())) {
            deepest = Math.max(deepest, depthOf(method));
            for (Element to : callsOf.get(method)) {
                if (!callsOf.containsKey(to)) {
                    others.add(nameOf(to));
                }
            }
        }
        others.removeAll(LIBRARY);
        if (!others.isEmpty()) {
            fault("of the library: " + others);
        }
        if (deepest > MOST_DEEP) {
            fault("calls go " + deepest + " deep");
        }
        if (callsOf.size() < 37) {
            fault("only " + callsOf.size() + " methods were seen");
        }
        System.out.println("ShapeTest: " + callsOf.size() + " methods, " + deepest + " deep, " + wrong + " wrong");
    }

    public static void main(String[] args) throws IOException {
        ShapeTest t = new ShapeTest();
        t.readCalls(args.length > 0 ? args[0] : "src/main/java/EndSums.java");
        t.look();
        if (t.wrong != 0) {
            System.exit(1);
        }
    }
}
