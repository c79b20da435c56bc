import com.sun.source.tree.AnnotationTree;
import com.sun.source.tree.AssertTree;
import com.sun.source.tree.BinaryTree;
import com.sun.source.tree.BlockTree;
import com.sun.source.tree.ClassTree;
import com.sun.source.tree.CompilationUnitTree;
import com.sun.source.tree.DoWhileLoopTree;
import com.sun.source.tree.ExpressionTree;
import com.sun.source.tree.ForLoopTree;
import com.sun.source.tree.InstanceOfTree;
import com.sun.source.tree.LambdaExpressionTree;
import com.sun.source.tree.MemberReferenceTree;
import com.sun.source.tree.MethodInvocationTree;
import com.sun.source.tree.MethodTree;
import com.sun.source.tree.NewArrayTree;
import com.sun.source.tree.NewClassTree;
import com.sun.source.tree.SynchronizedTree;
import com.sun.source.tree.ThrowTree;
import com.sun.source.tree.Tree;
import com.sun.source.tree.TryTree;
import com.sun.source.tree.TypeCastTree;
import com.sun.source.tree.VariableTree;
import com.sun.source.tree.WhileLoopTree;
import com.sun.source.util.JavacTask;
import com.sun.source.util.SourcePositions;
import com.sun.source.util.TreePathScanner;
import com.sun.source.util.Trees;
import java.nio.file.Files;
import java.nio.file.Path;
import java.util.HashSet;
import java.util.List;
import java.util.Map;
import java.util.Set;
import java.util.TreeMap;
import java.util.TreeSet;
import javax.lang.model.element.Element;
import javax.lang.model.element.ElementKind;
import javax.lang.model.element.Modifier;
import javax.lang.model.type.TypeMirror;
import javax.tools.JavaCompiler;
import javax.tools.StandardJavaFileManager;
import javax.tools.ToolProvider;

/** The rules of LANGUAGE.md, looked at in the text of the class as the compiler understands it. */
public final class RulesTest {
    private static final Path SOURCE = Path.of("src/main/java/ThinkNumber.java");
    private static final Set<String> LIBRARY = Set.of(
        "java.lang.String.length()", "java.lang.String.charAt(int)",
        "java.lang.System.arraycopy(java.lang.Object,int,java.lang.Object,int,int)",
        "java.util.Arrays.fill(int[],int)", "java.util.Arrays.fill(long[],long)",
        "java.lang.Math.max(int,int)", "java.lang.Math.min(int,int)", "java.lang.Math.abs(long)",
        "java.lang.Integer.bitCount(int)");
    private static final Set<String> RECURSIVE = Set.of("ThinkNumber.fewestAsks(int,int)",
        "ThinkNumber.mostAsksBehind(int,int,int)",
        "ThinkNumber.Maker.reaches(ThinkNumber.Orders,int,int)");
    private static final Set<String> CONSTANTS = Set.of("int", "long", "boolean", "char", "java.lang.String",
        "int[]", "long[]", "char[]", "byte[]");
    private static final int LINES_MAX = 60;
    private static final int DEPTH_MAX = 8;

    public static void main(String[] args) throws Exception {
        JavaCompiler compiler = ToolProvider.getSystemJavaCompiler();
        StandardJavaFileManager files = compiler.getStandardFileManager(null, null, null);
        JavacTask task = (JavacTask) compiler.getTask(null, files, null, List.of("--release", "17"), null,
            files.getJavaFileObjects(SOURCE));
        CompilationUnitTree unit = task.parse().iterator().next();
        task.analyze();
        Walk walk = new Walk(Trees.instance(task), unit);
        walk.scan(unit, null);
        Due.due("rule 1: no package line", unit.getPackageName() == null, true);
        Due.due("rule 1: one class outside", unit.getTypeDecls().size(), 1);
        Due.due("rule 3: signs of the text", Files.readString(SOURCE).chars().allMatch(sign -> sign < 128), true);
        Due.due("rule 11: some twelve classes", walk.classes <= 12, true);
        recursion(walk.calls);
        Due.finish("RulesTest");
    }

    /** Rules 8 and 11: what calls itself is known, and all else goes at most eight deep. */
    private static void recursion(Map<String, Set<String>> calls) {
        for (String method : calls.keySet()) {
            Due.due("rule 8: calls itself: " + method, comesTo(calls, method, method, new HashSet<>()),
                RECURSIVE.contains(method));
            Due.due("rule 11: calls of " + method, depth(calls, method) <= DEPTH_MAX, true);
        }
    }

    private static boolean comesTo(Map<String, Set<String>> calls, String from, String to, Set<String> met) {
        for (String called : calls.getOrDefault(from, Set.of())) {
            if (called.equals(to) || (met.add(called) && comesTo(calls, called, to, met))) {
                return true;
            }
        }
        return false;
    }

    /** Calls that stand open at once; one that calls itself counts as one level. */
    private static int depth(Map<String, Set<String>> calls, String method) {
        int deepest = 0;
        for (String called : calls.getOrDefault(method, Set.of())) {
            if (!RECURSIVE.contains(method) || !RECURSIVE.contains(called)) {
                deepest = Math.max(deepest, depth(calls, called));
            }
        }
        return deepest + 1;
    }

    private static final class Walk extends TreePathScanner<Void, Void> {
        private final Trees trees;
        private final CompilationUnitTree unit;
        private final SourcePositions places;
        private final Map<String, Set<String>> calls = new TreeMap<>();
        private String method = "";
        private boolean makes = true;
        private int classes;

        Walk(Trees trees, CompilationUnitTree unit) {
            this.trees = trees;
            this.unit = unit;
            this.places = trees.getSourcePositions();
        }

        private void rule(int number, Tree tree, boolean kept) {
            Due.due("rule " + number + ", line " + line(places.getStartPosition(unit, tree)) + ": " + tree,
                kept, true);
        }

        private long line(long place) {
            return unit.getLineMap().getLineNumber(place);
        }

        private String type(Tree tree) {
            TypeMirror type = trees.getTypeMirror(trees.getPath(unit, tree));
            return type == null ? "" : type.toString();
        }

        @Override
        public Void visitClass(ClassTree tree, Void nothing) {
            classes++;
            Element element = trees.getElement(getCurrentPath());
            boolean outer = element.getEnclosingElement().getKind() == ElementKind.PACKAGE;
            boolean nested = element.getEnclosingElement().getKind() == ElementKind.CLASS;
            rule(2, tree.getModifiers(), outer || (nested && element.getModifiers().contains(Modifier.STATIC)));
            int fields = 0;
            for (Tree member : tree.getMembers()) {
                rule(5, tree.getModifiers(), !(member instanceof BlockTree));
                boolean counts = member instanceof VariableTree
                    && !((VariableTree) member).getModifiers().getFlags().contains(Modifier.STATIC);
                fields += counts ? 1 : 0;
            }
            rule(11, tree.getModifiers(), fields <= 20);
            return super.visitClass(tree, nothing);
        }

        @Override
        public Void visitMethod(MethodTree tree, Void nothing) {
            Element element = trees.getElement(getCurrentPath());
            method = name(element);
            makes = element.getKind() == ElementKind.CONSTRUCTOR;
            long lines = line(places.getEndPosition(unit, tree)) - line(places.getStartPosition(unit, tree)) + 1;
            Due.due("rule 11: lines of " + method, lines <= LINES_MAX, true);
            Due.due("rule 11: parameters of " + method, tree.getParameters().size() <= 7, true);
            Due.due("rule 6: throws of " + method, tree.getThrows().isEmpty(), true);
            calls.putIfAbsent(method, new TreeSet<>());
            super.visitMethod(tree, nothing);
            method = "";
            makes = true;
            return null;
        }

        @Override
        public Void visitVariable(VariableTree tree, Void nothing) {
            Element element = trees.getElement(getCurrentPath());
            String type = element.asType().toString();
            String base = type.replace("[]", "");
            boolean number = base.matches("int|long|short|byte|char|boolean");
            boolean own = base.startsWith("ThinkNumber");
            int dimensions = (type.length() - base.length()) / 2;
            rule(3, tree, (number && dimensions <= 2) || (own && dimensions <= 1) || type.equals("java.lang.String"));
            if (element.getModifiers().contains(Modifier.STATIC)) {
                rule(5, tree, element.getModifiers().contains(Modifier.FINAL) && CONSTANTS.contains(type));
                rule(5, tree, tree.getInitializer() != null);
            }
            return super.visitVariable(tree, nothing);
        }

        @Override
        public Void visitMethodInvocation(MethodInvocationTree tree, Void nothing) {
            Element called = trees.getElement(trees.getPath(unit, tree));
            if (name(called).startsWith("ThinkNumber")) {
                calls.computeIfAbsent(method, unused -> new TreeSet<>()).add(name(called));
            } else if (called.getKind() != ElementKind.CONSTRUCTOR) {
                rule(4, tree, LIBRARY.contains(name(called)));
            }
            return super.visitMethodInvocation(tree, nothing);
        }

        private static String name(Element element) {
            return element.getEnclosingElement() + "." + element;
        }

        @Override
        public Void visitBinary(BinaryTree tree, Void nothing) {
            rule(10, tree, !type(tree).equals("java.lang.String"));
            boolean texts = type(tree.getLeftOperand()).equals("java.lang.String");
            rule(6, tree, !texts);
            return super.visitBinary(tree, nothing);
        }

        @Override
        public Void visitTypeCast(TypeCastTree tree, Void nothing) {
            rule(6, tree, type(tree).matches("int|long|byte|char"));
            return super.visitTypeCast(tree, nothing);
        }

        @Override
        public Void visitNewClass(NewClassTree tree, Void nothing) {
            rule(2, tree, tree.getClassBody() == null);
            rule(4, tree, type(tree).startsWith("ThinkNumber"));
            rule(12, tree, makes);
            return super.visitNewClass(tree, nothing);
        }

        @Override
        public Void visitNewArray(NewArrayTree tree, Void nothing) {
            rule(12, tree, makes);
            return super.visitNewArray(tree, nothing);
        }

        @Override
        public Void visitForLoop(ForLoopTree tree, Void nothing) {
            rule(9, tree, bounds(tree.getCondition()));
            return super.visitForLoop(tree, nothing);
        }

        @Override
        public Void visitWhileLoop(WhileLoopTree tree, Void nothing) {
            rule(9, tree, bounds(tree.getCondition()));
            return super.visitWhileLoop(tree, nothing);
        }

        /** A condition that compares: a counter against its bound. */
        private static boolean bounds(ExpressionTree condition) {
            return condition != null && condition.toString().matches("(?s).*\\w [<>]=? .*");
        }

        @Override
        public Void visitDoWhileLoop(DoWhileLoopTree tree, Void nothing) {
            rule(9, tree, false);
            return null;
        }

        @Override
        public Void visitLambdaExpression(LambdaExpressionTree tree, Void nothing) {
            rule(2, tree, false);
            return null;
        }

        @Override
        public Void visitMemberReference(MemberReferenceTree tree, Void nothing) {
            rule(2, tree, false);
            return null;
        }

        @Override
        public Void visitThrow(ThrowTree tree, Void nothing) {
            rule(6, tree, false);
            return null;
        }

        @Override
        public Void visitTry(TryTree tree, Void nothing) {
            rule(6, tree, false);
            return null;
        }

        @Override
        public Void visitSynchronized(SynchronizedTree tree, Void nothing) {
            rule(6, tree, false);
            return null;
        }

        @Override
        public Void visitAssert(AssertTree tree, Void nothing) {
            rule(6, tree, false);
            return null;
        }

        @Override
        public Void visitInstanceOf(InstanceOfTree tree, Void nothing) {
            rule(6, tree, false);
            return null;
        }

        @Override
        public Void visitAnnotation(AnnotationTree tree, Void nothing) {
            rule(4, tree, false);
            return null;
        }
    }
}
