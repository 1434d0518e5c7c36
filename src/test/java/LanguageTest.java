import com.sun.source.tree.BlockTree;
import com.sun.source.tree.CatchTree;
import com.sun.source.tree.ClassTree;
import com.sun.source.tree.CompilationUnitTree;
import com.sun.source.tree.DoWhileLoopTree;
import com.sun.source.tree.ForLoopTree;
import com.sun.source.tree.ImportTree;
import com.sun.source.tree.LambdaExpressionTree;
import com.sun.source.tree.LiteralTree;
import com.sun.source.tree.MemberReferenceTree;
import com.sun.source.tree.MethodInvocationTree;
import com.sun.source.tree.MethodTree;
import com.sun.source.tree.NewClassTree;
import com.sun.source.tree.SynchronizedTree;
import com.sun.source.tree.ThrowTree;
import com.sun.source.tree.Tree;
import com.sun.source.tree.TryTree;
import com.sun.source.tree.TypeCastTree;
import com.sun.source.tree.VariableTree;
import com.sun.source.tree.WhileLoopTree;
import com.sun.source.util.JavacTask;
import com.sun.source.util.TreePath;
import com.sun.source.util.TreePathScanner;
import com.sun.source.util.Trees;
import java.io.File;
import java.util.ArrayDeque;
import java.util.ArrayList;
import java.util.Deque;
import java.util.List;
import java.util.Map;
import java.util.Set;
import java.util.TreeMap;
import java.util.TreeSet;
import javax.lang.model.element.Element;
import javax.lang.model.element.ExecutableElement;
import javax.lang.model.element.Modifier;
import javax.tools.JavaCompiler;
import javax.tools.StandardJavaFileManager;
import javax.tools.ToolProvider;

/** The class keeps to those rules of LANGUAGE.md that can be seen from its text. */
public final class LanguageTest {
    private static final String SOURCE = "src/main/java/LoopTracer.java";
    private static final int MOST_DEPTH = 8, MOST_PARAMETERS = 7, MOST_LINES = 60, MOST_CLASSES = 12, MOST_FIELDS = 20;
    private static final Set<String> CONSTANT_TYPES = Set.of(
            "int", "long", "boolean", "char", "String", "int[]", "long[]", "char[]", "byte[]");
    private static final Set<String> TYPES = Set.of(
            "int", "long", "short", "byte", "char", "boolean", "int[]", "long[]", "short[]", "byte[]", "char[]",
            "boolean[]", "String", "StringBuilder");
    private static final Set<String> EXCEPTIONS = Set.of(
            "IllegalStateException", "IllegalArgumentException", "IndexOutOfBoundsException", "ArithmeticException",
            "UnsupportedOperationException", "NoSuchElementException", "RuntimeException");
    private static final Set<String> LIBRARY = Set.of(
            "java.lang.System.arraycopy", "java.util.Arrays.fill", "java.util.Arrays.copyOf",
            "java.util.Arrays.copyOfRange", "java.lang.Math.min", "java.lang.Math.max", "java.lang.Math.abs",
            "java.lang.Math.floorMod", "java.lang.Math.floorDiv", "java.lang.Object.<init>");

    public static void main(String[] args) throws Exception {
        Seen seen = read();
        Check.test("The program is one file, without a package line", () -> seen.packageIsNone());
        Check.test("2: classes inside are static, and there is no lambda, method reference or local class",
                () -> none(seen, "class"));
        Check.test("3: types: numbers, arrays of them, and your own classes", () -> none(seen, "type"));
        Check.test("4: the library: only what stands here", () -> none(seen, "library"));
        Check.test("5: static fields are final constants", () -> none(seen, "static"));
        Check.test("6: throw new E() or throw new E(\"a written text\"), none in a constructor",
                () -> none(seen, "throw"));
        Check.test("6: what the machine throws is not caught, no finally, no synchronized", () -> none(seen, "catch"));
        Check.test("6: a cast only behind the test that makes it safe: there is none", () -> none(seen, "cast"));
        Check.test("8: no method calls itself, through others neither", () -> seen.tellRecursion());
        Check.test("9: every loop has an end that can be seen from its own lines", () -> none(seen, "loop"));
        Check.test("11: a method takes at most seven parameters, and stays short", () -> none(seen, "size"));
        Check.test("11: calls go at most eight deep", () -> seen.tellDepth());
        Check.test("11: at most some twelve classes, some twenty fields", () -> seen.tellCounts());
        Check.finish("LanguageTest");
    }

    private static void none(Seen seen, String kind) {
        Check.same(kind, seen.faults.getOrDefault(kind, List.of()), List.of());
    }

    private static Seen read() throws Exception {
        JavaCompiler compiler = ToolProvider.getSystemJavaCompiler();
        try (StandardJavaFileManager files = compiler.getStandardFileManager(null, null, null)) {
            JavacTask task = (JavacTask) compiler.getTask(
                    null, files, null, List.of("-proc:none"), null, files.getJavaFileObjects(new File(SOURCE)));
            CompilationUnitTree unit = task.parse().iterator().next();
            task.analyze();
            Seen seen = new Seen(Trees.instance(task), unit);
            seen.scan(unit, null);
            return seen;
        }
    }

    /** Walks through the text once and notes what a rule does not allow, and who calls whom. */
    private static final class Seen extends TreePathScanner<Void, Void> {
        final Map<String, List<String>> faults = new TreeMap<>();
        final Map<String, Set<String>> calls = new TreeMap<>();
        final Map<String, Integer> fields = new TreeMap<>();
        final Set<String> classes = new TreeSet<>();
        final Deque<String> inMethods = new ArrayDeque<>();
        final Trees trees;
        final CompilationUnitTree unit;

        Seen(Trees trees, CompilationUnitTree unit) {
            this.trees = trees;
            this.unit = unit;
            for (Tree type : unit.getTypeDecls()) {
                noteClasses((ClassTree) type);
            }
        }

        void noteClasses(ClassTree type) {
            classes.add(type.getSimpleName().toString());
            for (Tree member : type.getMembers()) {
                if (member instanceof ClassTree inside) {
                    noteClasses(inside);
                }
            }
        }

        void fault(String kind, Tree where) {
            long at = trees.getSourcePositions().getStartPosition(unit, where);
            String line = at < 0 ? "?" : String.valueOf(unit.getLineMap().getLineNumber(at));
            faults.computeIfAbsent(kind, k -> new ArrayList<>()).add(SOURCE + ":" + line);
        }

        void packageIsNone() {
            Check.same("package", unit.getPackageName() == null, true);
            Check.same("types of the file", unit.getTypeDecls().size(), 1);
        }

        @Override
        public Void visitImport(ImportTree tree, Void none) {
            String name = tree.getQualifiedIdentifier().toString();
            if (!Set.of("java.util.Arrays", "java.util.ArrayList", "java.util.List").contains(name)) {
                fault("library", tree);
            }
            return super.visitImport(tree, none);
        }

        @Override
        public Void visitClass(ClassTree tree, Void none) {
            boolean top = getCurrentPath().getParentPath().getLeaf() instanceof CompilationUnitTree;
            if (!inMethods.isEmpty() || !top && !tree.getModifiers().getFlags().contains(Modifier.STATIC)) {
                fault("class", tree);
            }
            for (Tree member : tree.getMembers()) {
                if (member instanceof BlockTree) {
                    fault("static", member);
                }
            }
            return super.visitClass(tree, none);
        }

        @Override
        public Void visitVariable(VariableTree tree, Void none) {
            String type = String.valueOf(tree.getType());
            String own = type.endsWith("[]") ? type.substring(0, type.length() - 2) : type;
            if (!TYPES.contains(type) && !classes.contains(own)) {
                fault("type", tree);
            }
            Set<Modifier> flags = tree.getModifiers().getFlags();
            if (flags.contains(Modifier.STATIC)) {
                if (!flags.contains(Modifier.FINAL) || !CONSTANT_TYPES.contains(type) || tree.getInitializer() == null) {
                    fault("static", tree);
                }
            } else if (getCurrentPath().getParentPath().getLeaf() instanceof ClassTree owner) {
                fields.merge(owner.getSimpleName().toString(), 1, Integer::sum);
            }
            return super.visitVariable(tree, none);
        }

        @Override
        public Void visitMethod(MethodTree tree, Void none) {
            Element method = trees.getElement(getCurrentPath());
            inMethods.push(nameOf(method));
            calls.computeIfAbsent(nameOf(method), k -> new TreeSet<>());
            if (tree.getParameters().size() > MOST_PARAMETERS || lines(tree) > MOST_LINES) {
                fault("size", tree);
            }
            super.visitMethod(tree, none);
            inMethods.pop();
            return null;
        }

        long lines(Tree tree) {
            long from = trees.getSourcePositions().getStartPosition(unit, tree);
            long to = trees.getSourcePositions().getEndPosition(unit, tree);
            return from < 0 || to < 0 ? 0 : unit.getLineMap().getLineNumber(to) - unit.getLineMap().getLineNumber(from) + 1;
        }

        static String nameOf(Element method) {
            return method.getEnclosingElement() + "." + method;
        }

        @Override
        public Void visitMethodInvocation(MethodInvocationTree tree, Void none) {
            noteCall(trees.getElement(getCurrentPath()), tree);
            return super.visitMethodInvocation(tree, none);
        }

        @Override
        public Void visitNewClass(NewClassTree tree, Void none) {
            if (!EXCEPTIONS.contains(tree.getIdentifier().toString())) {
                noteCall(trees.getElement(getCurrentPath()), tree);
            }
            return super.visitNewClass(tree, none);
        }

        void noteCall(Element called, Tree tree) {
            if (!(called instanceof ExecutableElement)) {
                fault("library", tree);
                return;
            }
            String owner = String.valueOf(called.getEnclosingElement());
            boolean own = owner.equals("LoopTracer") || owner.startsWith("LoopTracer.");
            if (!own && !LIBRARY.contains(owner + "." + called.getSimpleName())) {
                fault("library", tree);
            }
            if (own && !inMethods.isEmpty()) {
                calls.get(inMethods.peek()).add(nameOf(called));
            }
        }

        @Override
        public Void visitThrow(ThrowTree tree, Void none) {
            boolean inConstructor = !inMethods.isEmpty() && isConstructor();
            if (inConstructor || !(tree.getExpression() instanceof NewClassTree made) || !isWritten(made)) {
                fault("throw", tree);
            }
            return super.visitThrow(tree, none);
        }

        boolean isConstructor() {
            for (TreePath path = getCurrentPath(); path != null; path = path.getParentPath()) {
                if (path.getLeaf() instanceof MethodTree method) {
                    return method.getReturnType() == null;
                }
            }
            return false;
        }

        boolean isWritten(NewClassTree made) {
            boolean text = made.getArguments().isEmpty()
                    || made.getArguments().size() == 1 && made.getArguments().get(0) instanceof LiteralTree;
            return text && EXCEPTIONS.contains(made.getIdentifier().toString());
        }

        @Override
        public Void visitTry(TryTree tree, Void none) {
            if (tree.getFinallyBlock() != null || !tree.getResources().isEmpty()) {
                fault("catch", tree);
            }
            return super.visitTry(tree, none);
        }

        @Override
        public Void visitCatch(CatchTree tree, Void none) {
            fault("catch", tree);
            return super.visitCatch(tree, none);
        }

        @Override
        public Void visitSynchronized(SynchronizedTree tree, Void none) {
            fault("catch", tree);
            return super.visitSynchronized(tree, none);
        }

        @Override
        public Void visitLambdaExpression(LambdaExpressionTree tree, Void none) {
            fault("class", tree);
            return super.visitLambdaExpression(tree, none);
        }

        @Override
        public Void visitMemberReference(MemberReferenceTree tree, Void none) {
            fault("class", tree);
            return super.visitMemberReference(tree, none);
        }

        @Override
        public Void visitTypeCast(TypeCastTree tree, Void none) {
            fault("cast", tree);
            return super.visitTypeCast(tree, none);
        }

        /** A counter that is set, held against a bound, and moved on by one. */
        @Override
        public Void visitForLoop(ForLoopTree tree, Void none) {
            boolean counts = tree.getInitializer().size() == 1 && tree.getUpdate().size() == 1
                    && tree.getInitializer().get(0) instanceof VariableTree counter
                    && tree.getUpdate().get(0).getExpression().toString().equals(counter.getName() + "++")
                    && tree.getCondition() != null
                    && tree.getCondition().toString().startsWith(counter.getName() + " < ")
                    && !tree.getCondition().toString().contains("||");
            if (!counts) {
                fault("loop", tree);
            }
            return super.visitForLoop(tree, none);
        }

        @Override
        public Void visitWhileLoop(WhileLoopTree tree, Void none) {
            fault("loop", tree);
            return super.visitWhileLoop(tree, none);
        }

        @Override
        public Void visitDoWhileLoop(DoWhileLoopTree tree, Void none) {
            fault("loop", tree);
            return super.visitDoWhileLoop(tree, none);
        }

        void tellRecursion() {
            for (String method : calls.keySet()) {
                Check.same(method + " calls itself", reaches(method, method, new TreeSet<>()), false);
            }
        }

        boolean reaches(String from, String wanted, Set<String> been) {
            for (String next : calls.getOrDefault(from, Set.of())) {
                if (next.equals(wanted) || been.add(next) && reaches(next, wanted, been)) {
                    return true;
                }
            }
            return false;
        }

        void tellDepth() {
            for (String method : calls.keySet()) {
                List<String> chain = deepest(method, 0);
                Check.same("deeper than " + MOST_DEPTH + ": " + chain, chain.size() > MOST_DEPTH, false);
            }
        }

        /** The longest chain of calls from a method on, itself the first; cut where it would go round. */
        List<String> deepest(String method, int open) {
            List<String> longest = new ArrayList<>();
            for (String next : calls.getOrDefault(method, Set.of())) {
                List<String> chain = open > MOST_DEPTH ? new ArrayList<>() : deepest(next, open + 1);
                longest = chain.size() > longest.size() ? chain : longest;
            }
            longest.add(0, method);
            return longest;
        }

        void tellCounts() {
            Check.same("classes " + classes, classes.size() <= MOST_CLASSES, true);
            for (Map.Entry<String, Integer> entry : fields.entrySet()) {
                Check.same("fields of " + entry, entry.getValue() <= MOST_FIELDS, true);
            }
        }
    }
}
