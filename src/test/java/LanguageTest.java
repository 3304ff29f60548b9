import com.sun.source.tree.AssertTree;
import com.sun.source.tree.BinaryTree;
import com.sun.source.tree.BlockTree;
import com.sun.source.tree.ClassTree;
import com.sun.source.tree.CompilationUnitTree;
import com.sun.source.tree.CompoundAssignmentTree;
import com.sun.source.tree.DoWhileLoopTree;
import com.sun.source.tree.ExpressionTree;
import com.sun.source.tree.ForLoopTree;
import com.sun.source.tree.ImportTree;
import com.sun.source.tree.LambdaExpressionTree;
import com.sun.source.tree.LiteralTree;
import com.sun.source.tree.MemberReferenceTree;
import com.sun.source.tree.MethodInvocationTree;
import com.sun.source.tree.MethodTree;
import com.sun.source.tree.NewArrayTree;
import com.sun.source.tree.NewClassTree;
import com.sun.source.tree.ParenthesizedTree;
import com.sun.source.tree.SynchronizedTree;
import com.sun.source.tree.ThrowTree;
import com.sun.source.tree.Tree;
import com.sun.source.tree.TryTree;
import com.sun.source.tree.TypeCastTree;
import com.sun.source.tree.UnaryTree;
import com.sun.source.tree.VariableTree;
import com.sun.source.tree.WhileLoopTree;
import com.sun.source.util.JavacTask;
import com.sun.source.util.TreePathScanner;
import com.sun.source.util.TreeScanner;
import com.sun.source.util.Trees;
import java.io.File;
import java.io.IOException;
import java.nio.file.Files;
import java.nio.file.Path;
import java.util.ArrayList;
import java.util.HashMap;
import java.util.HashSet;
import java.util.List;
import java.util.Map;
import java.util.Set;
import java.util.TreeSet;
import javax.lang.model.element.Element;
import javax.lang.model.element.ElementKind;
import javax.lang.model.element.Modifier;
import javax.lang.model.element.TypeElement;
import javax.lang.model.type.ArrayType;
import javax.lang.model.type.TypeKind;
import javax.lang.model.type.TypeMirror;
import javax.tools.JavaCompiler;
import javax.tools.StandardJavaFileManager;
import javax.tools.ToolProvider;

/**
 * The class keeps to LANGUAGE.md, as far as that can be seen in its text, which the compiler reads
 * here. Some rules are held more narrowly than they stand there (no recursion, no cast, nothing made
 * behind the constructors), as the class needs no more.
 */
public final class LanguageTest {
    private static final Path FILE = Path.of("src/main/java/HalfMaps.java");
    private static final int MOST_LINES = 60;
    private static final int MOST_DEEP = 8;
    private static final int MOST_CLASSES = 12;
    private static final int MOST_FIELDS = 20;
    private static final int MOST_PARAMETERS = 7;
    private static final Set<String> LIBRARY = Set.of("java.lang.Math.max", "java.lang.Math.min",
        "java.lang.Integer.bitCount", "java.lang.System.arraycopy", "java.util.Arrays.fill");
    private static int wrong = 0;

    public static void main(String[] args) throws IOException {
        signs();
        JavaCompiler compiler = ToolProvider.getSystemJavaCompiler();
        try (StandardJavaFileManager files = compiler.getStandardFileManager(null, null, null)) {
            List<String> options = List.of("--release", "17", "-proc:none");
            JavacTask task = (JavacTask) compiler.getTask(null, files, null, options, null,
                files.getJavaFileObjects(new File(FILE.toString())));
            Iterable<? extends CompilationUnitTree> units = task.parse();
            task.analyze();
            for (CompilationUnitTree unit : units) {
                Reader reader = new Reader(Trees.instance(task), unit);
                reader.scan(unit, null);
                reader.lookAtDepths();
                reader.lookAtClasses();
            }
        }
        System.out.println(wrong == 0 ? "the language is as due" : wrong + " faults of the language");
        if (wrong != 0) {
            System.exit(1);
        }
    }

    private static void fault(String text) {
        wrong++;
        System.out.println(text);
    }

    private static void signs() throws IOException {
        String text = Files.readString(FILE);
        if (!text.chars().allMatch(sign -> sign == '\n' || sign >= 32 && sign < 127)) {
            fault("a sign that is not 32 to 126");
        }
    }

    private static final class Reader extends TreePathScanner<Void, Void> {
        private final Trees trees;
        private final CompilationUnitTree unit;
        private final Map<Element, Set<Element>> calls = new HashMap<>();
        private final List<ClassTree> classes = new ArrayList<>();
        private Element method = null;

        Reader(Trees trees, CompilationUnitTree unit) {
            this.trees = trees;
            this.unit = unit;
        }

        private long line(Tree tree) {
            return unit.getLineMap().getLineNumber(trees.getSourcePositions().getStartPosition(unit, tree));
        }

        private long lastLine(Tree tree) {
            return unit.getLineMap().getLineNumber(trees.getSourcePositions().getEndPosition(unit, tree));
        }

        private void fault(Tree tree, String text) {
            LanguageTest.fault("line " + line(tree) + ": " + text);
        }

        private Element element() {
            return trees.getElement(getCurrentPath());
        }

        private boolean isOwn(Element element) {
            Element outer = element;
            while (outer.getEnclosingElement() != null && outer.getEnclosingElement().getKind() != ElementKind.PACKAGE) {
                outer = outer.getEnclosingElement();
            }
            return outer.getSimpleName().contentEquals("HalfMaps");
        }

        // ---- rules 1 to 5: classes, types, the library, static fields

        @Override
        public Void visitCompilationUnit(CompilationUnitTree tree, Void none) {
            if (tree.getPackage() != null || tree.getTypeDecls().size() != 1) {
                fault(tree, "a package line, or not one class in the file");
            }
            return super.visitCompilationUnit(tree, none);
        }

        @Override
        public Void visitImport(ImportTree tree, Void none) {
            String name = tree.getQualifiedIdentifier().toString();
            if (!Set.of("java.util.Arrays", "java.util.ArrayList", "java.util.List", "java.util.Iterator").contains(name)) {
                fault(tree, "import of " + name);
            }
            return super.visitImport(tree, none);
        }

        @Override
        public Void visitClass(ClassTree tree, Void none) {
            TypeElement type = (TypeElement) element();
            classes.add(tree);
            if (tree.getSimpleName().length() == 0 || !type.getNestingKind().isNested() && classes.size() > 1) {
                fault(tree, "an anonymous class, or a second one outside");
            }
            boolean isInside = type.getNestingKind().isNested();
            if (isInside && !type.getModifiers().contains(Modifier.STATIC)) {
                fault(tree, "a class inside that is not static");
            }
            for (Tree member : tree.getMembers()) {
                if (member instanceof BlockTree) {
                    fault(member, "an initialiser block");
                }
            }
            return super.visitClass(tree, none);
        }

        @Override
        public Void visitVariable(VariableTree tree, Void none) {
            Element variable = element();
            if (!isAllowed(variable.asType())) {
                fault(tree, "type " + variable.asType());
            }
            boolean isStatic = variable.getModifiers().contains(Modifier.STATIC);
            if (isStatic && !variable.getModifiers().contains(Modifier.FINAL)) {
                fault(tree, "static and not final");
            }
            if (isStatic && !(tree.getInitializer() instanceof NewArrayTree) && !variable.asType().getKind().isPrimitive()) {
                fault(tree, "a static field that is neither a number nor an array that is written out");
            }
            return super.visitVariable(tree, none);
        }

        private boolean isAllowed(TypeMirror type) {
            if (type.getKind() == TypeKind.INT || type.getKind() == TypeKind.BOOLEAN) {
                return true;
            }
            if (type.getKind() == TypeKind.ARRAY) {
                TypeMirror part = ((ArrayType) type).getComponentType();
                return part.getKind() != TypeKind.ARRAY && isAllowed(part);
            }
            return type.getKind() == TypeKind.DECLARED && type.toString().startsWith("HalfMaps.");
        }

        @Override
        public Void visitMethodInvocation(MethodInvocationTree tree, Void none) {
            Element called = element();
            if (isOwn(called)) {
                if (method != null) {
                    calls.get(method).add(called);
                }
            } else if (!isObjectsOwn(called) && !LIBRARY.contains(called.getEnclosingElement() + "." + called.getSimpleName())) {
                fault(tree, "call of " + called.getEnclosingElement() + "." + called);
            }
            return super.visitMethodInvocation(tree, none);
        }

        /** What the compiler itself puts in: the constructor of Object. */
        private static boolean isObjectsOwn(Element called) {
            return called.getKind() == ElementKind.CONSTRUCTOR
                && called.getEnclosingElement().toString().equals("java.lang.Object");
        }

        // ---- rule 6: what is ruled out

        @Override
        public Void visitLambdaExpression(LambdaExpressionTree tree, Void none) {
            fault(tree, "a lambda");
            return super.visitLambdaExpression(tree, none);
        }

        @Override
        public Void visitMemberReference(MemberReferenceTree tree, Void none) {
            fault(tree, "a method reference");
            return super.visitMemberReference(tree, none);
        }

        @Override
        public Void visitThrow(ThrowTree tree, Void none) {
            fault(tree, "throw");
            return super.visitThrow(tree, none);
        }

        @Override
        public Void visitTry(TryTree tree, Void none) {
            fault(tree, "try");
            return super.visitTry(tree, none);
        }

        @Override
        public Void visitSynchronized(SynchronizedTree tree, Void none) {
            fault(tree, "synchronized");
            return super.visitSynchronized(tree, none);
        }

        @Override
        public Void visitAssert(AssertTree tree, Void none) {
            fault(tree, "assert");
            return super.visitAssert(tree, none);
        }

        @Override
        public Void visitTypeCast(TypeCastTree tree, Void none) {
            fault(tree, "a cast");
            return super.visitTypeCast(tree, none);
        }

        // ---- rule 7: divisors

        @Override
        public Void visitBinary(BinaryTree tree, Void none) {
            if (tree.getKind() == Tree.Kind.DIVIDE || tree.getKind() == Tree.Kind.REMAINDER) {
                divisor(tree.getRightOperand());
            }
            return super.visitBinary(tree, none);
        }

        @Override
        public Void visitCompoundAssignment(CompoundAssignmentTree tree, Void none) {
            if (tree.getKind() == Tree.Kind.DIVIDE_ASSIGNMENT || tree.getKind() == Tree.Kind.REMAINDER_ASSIGNMENT) {
                divisor(tree.getExpression());
            }
            return super.visitCompoundAssignment(tree, none);
        }

        private void divisor(ExpressionTree tree) {
            boolean isNumber = tree instanceof LiteralTree && !((LiteralTree) tree).getValue().equals(0);
            if (!isNumber && !tree.toString().startsWith("POWER[")) {
                fault(tree, "a divisor that is neither a number nor a power of six: " + tree);
            }
        }

        // ---- rule 9: loops

        @Override
        public Void visitForLoop(ForLoopTree tree, Void none) {
            bound(tree, tree.getCondition(), tree.getUpdate());
            return super.visitForLoop(tree, none);
        }

        @Override
        public Void visitWhileLoop(WhileLoopTree tree, Void none) {
            bound(tree, tree.getCondition(), List.of(tree.getStatement()));
            return super.visitWhileLoop(tree, none);
        }

        @Override
        public Void visitDoWhileLoop(DoWhileLoopTree tree, Void none) {
            bound(tree, tree.getCondition(), List.of(tree.getStatement()));
            return super.visitDoWhileLoop(tree, none);
        }

        /** A counter that the loop's own lines move is looked at against a bound, whatever else is asked. */
        private void bound(Tree loop, ExpressionTree condition, List<? extends Tree> steps) {
            Counters counters = new Counters();
            counters.scan(steps, null);
            counters.bounds(condition);
            if (!counters.bounded.removeAll(counters.moved)) {
                fault(loop, "a loop without a counter against a bound");
            }
        }

        // ---- rules 8, 11 and 12: methods, depth, what is made

        @Override
        public Void visitMethod(MethodTree tree, Void none) {
            Element outer = method;
            method = element();
            calls.put(method, new HashSet<>());
            if (tree.getParameters().size() > MOST_PARAMETERS) {
                fault(tree, "too many parameters");
            }
            if (lastLine(tree) - line(tree) >= MOST_LINES) {
                fault(tree, "too long: " + tree.getName());
            }
            super.visitMethod(tree, none);
            method = outer;
            return null;
        }

        @Override
        public Void visitNewArray(NewArrayTree tree, Void none) {
            making(tree);
            return super.visitNewArray(tree, none);
        }

        @Override
        public Void visitNewClass(NewClassTree tree, Void none) {
            making(tree);
            return super.visitNewClass(tree, none);
        }

        private void making(Tree tree) {
            if (method != null && method.getKind() != ElementKind.CONSTRUCTOR) {
                fault(tree, "made behind the constructors: " + tree);
            }
        }

        void lookAtDepths() {
            for (Element start : calls.keySet()) {
                List<Element> open = new ArrayList<>();
                int deep = depth(start, open);
                if (deep > MOST_DEEP) {
                    LanguageTest.fault(start + " goes " + deep + " deep");
                }
            }
        }

        private int depth(Element start, List<Element> open) {
            if (open.contains(start)) {
                LanguageTest.fault("recursion: " + open + " and " + start);
                return 0;
            }
            open.add(start);
            int deepest = 0;
            for (Element called : calls.getOrDefault(start, Set.of())) {
                deepest = Math.max(deepest, depth(called, open));
            }
            open.remove(open.size() - 1);
            return deepest + 1;
        }

        void lookAtClasses() {
            if (classes.size() > MOST_CLASSES) {
                LanguageTest.fault("too many classes: " + classes.size());
            }
            for (ClassTree type : classes) {
                Set<String> fields = new TreeSet<>();
                for (Tree member : type.getMembers()) {
                    if (member instanceof VariableTree
                        && !((VariableTree) member).getModifiers().getFlags().contains(Modifier.STATIC)) {
                        fields.add(((VariableTree) member).getName().toString());
                    }
                }
                if (fields.size() > MOST_FIELDS) {
                    fault(type, "too many fields: " + fields);
                }
            }
        }
    }

    /** The names that a loop counts up or down, and those that must be below or above something for it to go on. */
    private static final class Counters extends TreeScanner<Void, Void> {
        final Set<String> moved = new HashSet<>();
        final Set<String> bounded = new HashSet<>();

        @Override
        public Void visitUnary(UnaryTree tree, Void none) {
            boolean moves = Set.of(Tree.Kind.POSTFIX_INCREMENT, Tree.Kind.POSTFIX_DECREMENT, Tree.Kind.PREFIX_INCREMENT,
                Tree.Kind.PREFIX_DECREMENT).contains(tree.getKind());
            if (moves) {
                moved.add(tree.getExpression().toString());
            }
            return super.visitUnary(tree, none);
        }

        @Override
        public Void visitCompoundAssignment(CompoundAssignmentTree tree, Void none) {
            if (tree.getKind() == Tree.Kind.PLUS_ASSIGNMENT && tree.getExpression() instanceof LiteralTree) {
                moved.add(tree.getVariable().toString());
            }
            return super.visitCompoundAssignment(tree, none);
        }

        void bounds(ExpressionTree condition) {
            if (condition instanceof ParenthesizedTree) {
                bounds(((ParenthesizedTree) condition).getExpression());
            } else if (condition instanceof BinaryTree) {
                BinaryTree both = (BinaryTree) condition;
                if (both.getKind() == Tree.Kind.CONDITIONAL_AND) {
                    bounds(both.getLeftOperand());
                    bounds(both.getRightOperand());
                } else if (Set.of(Tree.Kind.LESS_THAN, Tree.Kind.LESS_THAN_EQUAL, Tree.Kind.GREATER_THAN,
                    Tree.Kind.GREATER_THAN_EQUAL).contains(both.getKind())) {
                    bounded.add(both.getLeftOperand().toString());
                }
            }
        }
    }
}
