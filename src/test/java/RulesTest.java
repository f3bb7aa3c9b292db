import com.sun.source.tree.BinaryTree;
import com.sun.source.tree.ClassTree;
import com.sun.source.tree.CompilationUnitTree;
import com.sun.source.tree.ExpressionTree;
import com.sun.source.tree.LiteralTree;
import com.sun.source.tree.MethodInvocationTree;
import com.sun.source.tree.MethodTree;
import com.sun.source.tree.NewClassTree;
import com.sun.source.tree.Tree;
import com.sun.source.util.JavacTask;
import com.sun.source.util.TreePathScanner;
import com.sun.source.util.Trees;
import java.io.IOException;
import java.nio.file.Path;
import java.util.HashMap;
import java.util.HashSet;
import java.util.List;
import java.util.Map;
import java.util.Set;
import javax.lang.model.element.Element;
import javax.lang.model.element.ElementKind;
import javax.lang.model.element.Modifier;
import javax.lang.model.element.TypeElement;
import javax.tools.JavaCompiler;
import javax.tools.StandardJavaFileManager;
import javax.tools.ToolProvider;

/** The rules of LANGUAGE.md that want the source read as the compiler reads it: library, divisors, depth of calls, length of methods. */
public final class RulesTest {
    private static final Check CHECK = new Check();
    private static final Path SOURCE = Path.of("src/main/java/CodedWords.java");
    private static final Set<String> LIBRARY = Set.of("java.lang.Math.abs", "java.lang.Math.max", "java.lang.Math.min",
        "java.lang.Math.floorMod", "java.lang.Integer.bitCount", "java.util.Arrays.fill");
    /** These test their divisor themselves, so that nothing else has to divide by what may be 0. */
    private static final Set<String> DIVIDING = Set.of("rest", "cut");
    private static final int DEEPEST = 8;
    private static final int LONGEST = 60;

    public static void main(String[] args) throws IOException {
        JavaCompiler compiler = ToolProvider.getSystemJavaCompiler();
        try (StandardJavaFileManager files = compiler.getStandardFileManager(null, null, null)) {
            JavacTask task = (JavacTask) compiler.getTask(null, files, null, List.of("-proc:none"), null,
                files.getJavaFileObjects(SOURCE));
            Iterable<? extends CompilationUnitTree> units = task.parse();
            task.analyze();
            for (CompilationUnitTree unit : units) {
                Reader reader = new Reader(Trees.instance(task), unit);
                reader.scan(unit, null);
                reader.depths();
            }
        }
        CHECK.end();
    }

    private static final class Reader extends TreePathScanner<Void, Void> {
        private final Trees trees;
        private final CompilationUnitTree unit;
        private final Map<Element, Set<Element>> calls = new HashMap<>();
        private Element open = null;

        Reader(Trees trees, CompilationUnitTree unit) {
            this.trees = trees;
            this.unit = unit;
        }

        @Override
        public Void visitMethod(MethodTree method, Void none) {
            Element outer = open;
            open = trees.getElement(getCurrentPath());
            calls.putIfAbsent(open, new HashSet<>());
            CHECK.holds(open + " has at most " + LONGEST + " lines", lines(method) <= LONGEST);
            super.visitMethod(method, none);
            open = outer;
            return null;
        }

        @Override
        public Void visitClass(ClassTree type, Void none) {
            Element element = trees.getElement(getCurrentPath());
            boolean inside = element.getEnclosingElement().getKind() != ElementKind.PACKAGE;
            CHECK.holds(element + " is static if inside", !inside || element.getModifiers().contains(Modifier.STATIC));
            return super.visitClass(type, none);
        }

        @Override
        public Void visitMethodInvocation(MethodInvocationTree call, Void none) {
            called(trees.getElement(getCurrentPath()));
            return super.visitMethodInvocation(call, none);
        }

        @Override
        public Void visitNewClass(NewClassTree made, Void none) {
            called(trees.getElement(getCurrentPath()));
            return super.visitNewClass(made, none);
        }

        @Override
        public Void visitBinary(BinaryTree tree, Void none) {
            boolean divides = tree.getKind() == Tree.Kind.DIVIDE || tree.getKind() == Tree.Kind.REMAINDER;
            CHECK.holds(open + ": " + tree + " has a divisor that is tested", !divides || safe(tree.getRightOperand()));
            return super.visitBinary(tree, none);
        }

        private boolean safe(ExpressionTree divisor) {
            boolean fixed = divisor instanceof LiteralTree && !((LiteralTree) divisor).getValue().equals(0);
            return fixed || (open != null && DIVIDING.contains(open.getSimpleName().toString()));
        }

        private void called(Element to) {
            if (open != null) {
                calls.get(open).add(to);
            }
            TypeElement owner = (TypeElement) to.getEnclosingElement();
            String name = owner.getQualifiedName() + "." + to.getSimpleName();
            boolean own = owner.getQualifiedName().toString().startsWith("CodedWords");
            CHECK.holds(name + " is of the library that is left", own || LIBRARY.contains(name) || name.equals("java.lang.Object.<init>"));
        }

        private long lines(MethodTree method) {
            long start = trees.getSourcePositions().getStartPosition(unit, method);
            long end = trees.getSourcePositions().getEndPosition(unit, method);
            return unit.getLineMap().getLineNumber(end) - unit.getLineMap().getLineNumber(start) + 1;
        }

        void depths() {
            CHECK.holds("there are methods", calls.size() > 24);
            for (Element method : calls.keySet()) {
                int deep = depth(method, new HashSet<>());
                CHECK.holds(method + " has " + deep + " calls open at most", deep <= DEEPEST);
            }
        }

        private int depth(Element method, Set<Element> above) {
            if (!above.add(method)) {
                CHECK.holds(method + " is no recursion", false);
                return DEEPEST + 1;
            }
            int deepest = 0;
            for (Element next : calls.getOrDefault(method, Set.of())) {
                deepest = Math.max(deepest, depth(next, above));
            }
            above.remove(method);
            return deepest + 1;
        }
    }
}
