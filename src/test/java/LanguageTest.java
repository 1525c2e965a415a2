import com.sun.source.tree.AssertTree;
import com.sun.source.tree.BlockTree;
import com.sun.source.tree.ClassTree;
import com.sun.source.tree.CompilationUnitTree;
import com.sun.source.tree.DoWhileLoopTree;
import com.sun.source.tree.ForLoopTree;
import com.sun.source.tree.LambdaExpressionTree;
import com.sun.source.tree.LineMap;
import com.sun.source.tree.MemberReferenceTree;
import com.sun.source.tree.MethodInvocationTree;
import com.sun.source.tree.MethodTree;
import com.sun.source.tree.NewArrayTree;
import com.sun.source.tree.NewClassTree;
import com.sun.source.tree.SynchronizedTree;
import com.sun.source.tree.ThrowTree;
import com.sun.source.tree.Tree;
import com.sun.source.tree.TryTree;
import com.sun.source.tree.TypeCastTree;
import com.sun.source.tree.VariableTree;
import com.sun.source.tree.WhileLoopTree;
import com.sun.source.util.JavacTask;
import com.sun.source.util.TreePath;
import com.sun.source.util.TreePathScanner;
import com.sun.source.util.Trees;
import java.io.File;
import java.nio.file.Files;
import java.util.HashMap;
import java.util.HashSet;
import java.util.List;
import java.util.Map;
import java.util.Set;
import java.util.TreeMap;
import java.util.TreeSet;
import javax.lang.model.element.Element;
import javax.lang.model.element.ElementKind;
import javax.lang.model.element.Modifier;
import javax.lang.model.element.VariableElement;
import javax.lang.model.type.TypeMirror;
import javax.tools.JavaCompiler;
import javax.tools.StandardJavaFileManager;
import javax.tools.ToolProvider;

/** Rules of LANGUAGE.md that can be seen in the source, as the compiler reads it. */
public final class LanguageTest {
    private static final String SOURCE = "src/main/java/MovedFolders.java";
    private static final Check CHECK = new Check("LanguageTest");
    private static final int MOST_DEEP = 8, MOST_LINES = 60, MOST_PARAMETERS = 7, MOST_CLASSES = 12, MOST_FIELDS = 20;
    private static final Set<String> NUMBERS = Set.of("int", "long", "short", "byte", "char", "boolean");
    /** What the class takes of the library, all of it listed in rule 4: a wider list needs a look at the rule. */
    private static final Set<String> LIBRARY = Set.of("java.lang.Math.max", "java.lang.Math.min");

    /** Another source can be named, to see that the rules bite. */
    public static void main(String[] args) throws Exception {
        File source = new File(args.length > 0 ? args[0] : SOURCE);
        signs(Files.readString(source.toPath()));
        JavaCompiler compiler = ToolProvider.getSystemJavaCompiler();
        try (StandardJavaFileManager files = compiler.getStandardFileManager(null, null, null)) {
            JavacTask task = (JavacTask) compiler.getTask(null, files, null, List.of("-proc:none"), null,
                files.getJavaFileObjects(source));
            CompilationUnitTree unit = task.parse().iterator().next();
            task.analyze();
            Reader reader = new Reader(Trees.instance(task), unit);
            reader.scan(unit, null);
            reader.judge();
        }
        CHECK.end();
    }

    private static void signs(String text) {
        for (int k = 0; k < text.length(); k++) {
            if (text.charAt(k) > 126) {
                rule(4, "the sign at " + k, false);
            }
        }
    }

    private static void rule(int number, String what, boolean kept) {
        CHECK.same("rule " + number + ", " + what, kept ? "kept" : "broken", "kept");
    }

    private static final class Reader extends TreePathScanner<Void, Void> {
        private final Trees trees;
        private final CompilationUnitTree unit;
        private final LineMap lines;
        private final Map<String, Set<String>> calls = new TreeMap<>();
        private final Set<String> classes = new TreeSet<>();
        private final Map<String, Integer> fields = new HashMap<>();
        private final Map<String, Integer> depths = new HashMap<>();

        Reader(Trees trees, CompilationUnitTree unit) {
            this.trees = trees;
            this.unit = unit;
            this.lines = unit.getLineMap();
        }

        /** What can be told only when the whole has been read. */
        void judge() {
            rule(1, "no package line", unit.getPackage() == null);
            rule(4, "no imports", unit.getImports().isEmpty());
            rule(11, "classes: " + classes.size(), classes.size() <= MOST_CLASSES);
            for (String name : fields.keySet()) {
                rule(11, "fields of " + name, fields.get(name) <= MOST_FIELDS);
            }
            for (String name : calls.keySet()) {
                int depth = depthOf(name, new HashSet<>());
                rule(8, name + " does not call itself", depth >= 0);
                rule(11, name + " goes " + depth + " deep", depth <= MOST_DEEP);
            }
            CHECK.due("methods were read", calls.size() > 100 ? 1 : 0, 1);
        }

        /** How many calls stand open at once, its own included; below 0 where they go round. */
        private int depthOf(String name, Set<String> open) {
            if (depths.containsKey(name)) {
                return depths.get(name);
            }
            if (!open.add(name)) {
                return Integer.MIN_VALUE;
            }
            int deepest = 0;
            boolean round = false;
            for (String called : calls.getOrDefault(name, Set.of())) {
                int depth = depthOf(called, open);
                round |= depth < 0;
                deepest = Math.max(deepest, depth);
            }
            open.remove(name);
            int own = round ? Integer.MIN_VALUE : 1 + deepest;
            depths.put(name, own);
            return own;
        }

        private String at(Tree tree) {
            return "line " + lines.getLineNumber(trees.getSourcePositions().getStartPosition(unit, tree));
        }

        private Element elementOf(Tree tree) {
            return trees.getElement(TreePath.getPath(unit, tree));
        }

        private static String nameOf(Element method) {
            return method.getEnclosingElement() + "." + method;
        }

        private boolean isOwn(TypeMirror type) {
            String name = type.toString();
            return name.equals("MovedFolders") || name.startsWith("MovedFolders.");
        }

        private boolean isAllowed(TypeMirror type) {
            String name = type.toString();
            String part = name.endsWith("[]") ? name.substring(0, name.length() - 2) : name;
            return NUMBERS.contains(part) || isOwn(type);
        }

        private Element methodAround() {
            for (TreePath path = getCurrentPath(); path != null; path = path.getParentPath()) {
                if (path.getLeaf() instanceof MethodTree) {
                    return trees.getElement(path);
                }
            }
            return null;
        }

        @Override
        public Void visitClass(ClassTree tree, Void none) {
            Element element = elementOf(tree);
            if (!element.toString().equals("MovedFolders")) {
                boolean nested = element.getEnclosingElement().getKind() == ElementKind.CLASS;
                rule(2, element + " is static", nested && element.getModifiers().contains(Modifier.STATIC));
                rule(1, element + " is not open", !element.getModifiers().contains(Modifier.PUBLIC)
                    && !element.getModifiers().contains(Modifier.PROTECTED));
            }
            classes.add(element.toString());
            return super.visitClass(tree, none);
        }

        @Override
        public Void visitMethod(MethodTree tree, Void none) {
            Element element = elementOf(tree);
            long start = lines.getLineNumber(trees.getSourcePositions().getStartPosition(unit, tree));
            long end = lines.getLineNumber(Math.max(0, trees.getSourcePositions().getEndPosition(unit, tree)));
            rule(11, nameOf(element) + " has " + tree.getParameters().size() + " parameters",
                tree.getParameters().size() <= MOST_PARAMETERS);
            rule(11, nameOf(element) + " is short", end - start + 1 <= MOST_LINES);
            rule(6, nameOf(element) + " throws nothing", tree.getThrows().isEmpty());
            String name = tree.getName().toString();
            rule(6, nameOf(element), !Set.of("equals", "hashCode", "toString", "finalize").contains(name));
            calls.computeIfAbsent(nameOf(element), key -> new TreeSet<>());
            return super.visitMethod(tree, none);
        }

        @Override
        public Void visitVariable(VariableTree tree, Void none) {
            Element element = elementOf(tree);
            rule(3, "the type of " + tree.getName() + ", " + at(tree), isAllowed(element.asType()));
            if (element.getKind().isField()) {
                fieldIsFine(tree, element);
            }
            return super.visitVariable(tree, none);
        }

        private void fieldIsFine(VariableTree tree, Element element) {
            if (!element.getModifiers().contains(Modifier.STATIC)) {
                fields.merge(element.getEnclosingElement().toString(), 1, Integer::sum);
                return;
            }
            boolean constant = ((VariableElement) element).getConstantValue() != null;
            rule(5, tree.getName() + " is a constant", element.getModifiers().contains(Modifier.FINAL) && constant);
        }

        @Override
        public Void visitMethodInvocation(MethodInvocationTree tree, Void none) {
            Element called = elementOf(tree);
            Element from = methodAround();
            if (isOwn(called.getEnclosingElement().asType())) {
                String caller = from == null ? "fields" : nameOf(from);
                calls.computeIfAbsent(caller, key -> new TreeSet<>()).add(nameOf(called));
            } else if (!called.getSimpleName().contentEquals("<init>")) {
                String name = called.getEnclosingElement() + "." + called.getSimpleName();
                rule(4, name + ", " + at(tree), LIBRARY.contains(name));
            }
            return super.visitMethodInvocation(tree, none);
        }

        /** The rows are made once: an object is used for many calls, and all share one room. */
        private void isMadeOnce(Tree tree) {
            rule(12, "made outside of fields, " + at(tree), methodAround() == null);
        }

        @Override
        public Void visitNewClass(NewClassTree tree, Void none) {
            rule(2, "an anonymous class, " + at(tree), tree.getClassBody() == null);
            isMadeOnce(tree);
            return super.visitNewClass(tree, none);
        }

        @Override
        public Void visitNewArray(NewArrayTree tree, Void none) {
            isMadeOnce(tree);
            return super.visitNewArray(tree, none);
        }

        @Override
        public Void visitForLoop(ForLoopTree tree, Void none) {
            rule(9, "a loop with an end, " + at(tree), tree.getCondition() != null && !tree.getUpdate().isEmpty());
            return super.visitForLoop(tree, none);
        }

        /** Rule 9 allows these, with a bound: so far the class needs none, and a new one is looked at. */
        @Override
        public Void visitWhileLoop(WhileLoopTree tree, Void none) {
            return forbidden(9, "while", tree);
        }

        @Override
        public Void visitDoWhileLoop(DoWhileLoopTree tree, Void none) {
            return forbidden(9, "do", tree);
        }

        @Override
        public Void visitBlock(BlockTree tree, Void none) {
            rule(5, "a static block, " + at(tree), !tree.isStatic());
            return super.visitBlock(tree, none);
        }

        private Void forbidden(int number, String what, Tree tree) {
            rule(number, what + ", " + at(tree), false);
            return null;
        }

        @Override
        public Void visitLambdaExpression(LambdaExpressionTree tree, Void none) {
            return forbidden(2, "a lambda", tree);
        }

        @Override
        public Void visitMemberReference(MemberReferenceTree tree, Void none) {
            return forbidden(2, "a method reference", tree);
        }

        @Override
        public Void visitThrow(ThrowTree tree, Void none) {
            return forbidden(6, "throw", tree);
        }

        @Override
        public Void visitTry(TryTree tree, Void none) {
            return forbidden(6, "try", tree);
        }

        @Override
        public Void visitSynchronized(SynchronizedTree tree, Void none) {
            return forbidden(6, "synchronized", tree);
        }

        @Override
        public Void visitAssert(AssertTree tree, Void none) {
            return forbidden(6, "assert", tree);
        }

        @Override
        public Void visitTypeCast(TypeCastTree tree, Void none) {
            boolean number = NUMBERS.contains(tree.getType().toString());
            rule(6, "a cast, " + at(tree), number);
            return super.visitTypeCast(tree, none);
        }
    }
}
