import com.sun.source.tree.*;
import com.sun.source.util.JavacTask;
import com.sun.source.util.TreePath;
import com.sun.source.util.TreePathScanner;
import com.sun.source.util.TreeScanner;
import com.sun.source.util.Trees;
import java.io.IOException;
import java.net.URI;
import java.nio.file.Files;
import java.nio.file.Path;
import java.util.ArrayList;
import java.util.HashMap;
import java.util.HashSet;
import java.util.List;
import java.util.Map;
import java.util.Set;
import java.util.TreeSet;
import javax.lang.model.element.Element;
import javax.lang.model.element.ElementKind;
import javax.lang.model.element.ExecutableElement;
import javax.lang.model.element.Modifier;
import javax.lang.model.element.VariableElement;
import javax.lang.model.type.ArrayType;
import javax.lang.model.type.TypeKind;
import javax.lang.model.type.TypeMirror;
import javax.tools.DiagnosticCollector;
import javax.tools.JavaFileObject;
import javax.tools.SimpleJavaFileObject;
import javax.tools.ToolProvider;

/**
 * Reads the program's source for the rules of LANGUAGE.md that can be seen there; what a call does
 * when it runs (rule 7) is CallsTest's. So that a rule is not kept only because nobody looks, each is
 * first broken by a line or two, and the reading has to tell it.
 */
public final class LanguageTest {
    private static final Path PROGRAM = Path.of("src/main/java/LevelForests.java");

    private static int wrong = 0;

    public static void main(String[] args) throws IOException {
        for (String[] breach : LanguageExamples.BREACHES) {
            Set<String> told = Reading.of(asProgram(breach[1]));
            due(breach[1], told.stream().anyMatch(t -> t.startsWith(breach[0] + ":")), "rule " + breach[0], told);
        }
        for (String fine : LanguageExamples.FINE) {
            Set<String> told = Reading.of(asProgram(fine));
            due(fine, told.isEmpty(), "nothing", told);
        }
        Set<String> told = Reading.of(Files.readString(PROGRAM));
        due(PROGRAM.toString(), told.isEmpty(), "nothing", told);
        System.out.println(wrong == 0 ? "the program keeps to the language" : wrong + " readings are not as due");
        if (wrong != 0) {
            System.exit(1);
        }
    }

    /** An example is the members of the class, or a whole file. */
    private static String asProgram(String example) {
        return example.contains("class LevelForests") ? example
            : "public final class LevelForests {\n" + example + "\n}\n";
    }

    private static void due(String what, boolean good, String want, Set<String> told) {
        if (!good) {
            wrong++;
            System.out.println("of [" + what + "] was told " + told + ", due is " + want);
        }
    }
}

final class LanguageExamples {
    static final String[][] BREACHES = {
        {"1", "package p; public final class LevelForests { }"},
        {"1", "public final class LevelForests { } class Other { }"},
        {"1", "public class LevelForests { }"},
        {"1", "int field;"},
        {"1", "protected int ask() { return 1; }"},
        {"1", "int ask() { return 1; }"},
        {"1", "public int ask() { return 1; } private int ask(int u) { return u; }"},
        {"1", "private static final class Inner { }"},
        {"1", "private enum Inner { A }"},
        {"1", "private interface Inner { }"},
        {"1", "private record Inner(int u) { }"},
        {"2", "private double half;"},
        {"2", "private int ask(int u) { return (int) (u * 0.5); }"},
        {"2", "private float ask() { return 1; }"},
        {"2", "private void ask(String text) { }"},
        {"2", "private final int[][] grid = new int[3][3];"},
        {"2", "private int ask() { return \"text\".length(); }"},
        {"2", "private Object ask() { return null; }"},
        {"2", "private int ask() { var text = \"a\"; return 1; }"},
        {"2", "private final LevelForests other = null;"},
        {"3", "import java.util.List; public final class LevelForests { }"},
        {"3", "private int ask(int u) { return Math.abs(u); }"},
        {"3", "private int ask(int u) { return Integer.MAX_VALUE; }"},
        {"3", "private int ask() { return hashCode(); }"},
        {"3", "private int ask() { return this.hashCode(); }"},
        {"3", "private long ask() { return System.nanoTime(); }"},
        {"3", "private int ask(int[] a) { return a.clone().length; }"},
        {"3", "@Deprecated private int ask() { return 1; }"},
        {"3", "public final class LevelForests extends Thread { }"},
        {"3", "public final class LevelForests implements java.io.Serializable { }"},
        {"4", "private void ask() { int[] a = new int[3]; }"},
        {"4", "private final int[] a = {1, 2};"},
        {"4", "private final int[] a = new int[] {1, 2};"},
        {"4", "private final int[] a = new int[0];"},
        {"4", "private int n; private final int[] a = new int[n];"},
        {"4", "private int[] a; public LevelForests() { for (int i = 0; i < 2; i++) { a = new int[3]; } }"},
        {"4", "private int[] a; private int n; public LevelForests() { if (n == 0) { a = new int[3]; } }"},
        {"4", "private int n; private final int[] a = n == 0 ? new int[3] : new int[4];"},
        {"4", "private int[] a; { a = new int[3]; }"},
        {"4", "private final int[] a = new int[3]; private int[] ask() { return a; }"},
        {"4", "private final int[] a = new int[3]; private boolean ask(int[] b) { return a == b; }"},
        {"4", "private final int[] a = new int[3]; private boolean ask() { return a != null; }"},
        {"4", "private int[] a = new int[3]; private int[] b = new int[3]; private void ask() { a = b; }"},
        {"4", "private int[] a = new int[3]; private int[] b = new int[3]; private void ask() { int[] c = a;"
            + " for (int i = 0; i < 3; i++) { c = b; } }"},
        {"4", "private int[] a; public LevelForests() { ask(); a = new int[3]; } private void ask() { }"},
        {"4", "private int[] a = new int[3]; public LevelForests() { ask(a); } private void ask(int[] b) { }"},
        {"4", "private Object ask() { return new Object(); }"},
        {"5", "private static int count = 0;"},
        {"5", "private static final int[] A = new int[3];"},
        {"5", "private static final boolean YES = true;"},
        {"5", "private static final int ONE = one(); private static int one() { return 1; }"},
        {"5", "private static final int ONE; static { ONE = 1; }"},
        {"6", "private void ask() { throw new RuntimeException(); }"},
        {"6", "private void ask() { try { ask2(); } finally { } } private void ask2() { }"},
        {"6", "private void ask() { synchronized (this) { } }"},
        {"6", "private synchronized void ask() { }"},
        {"6", "private void ask() throws Exception { }"},
        {"6", "private void ask(int u) { assert u > 0; }"},
        {"6", "private boolean ask() { return this instanceof LevelForests; }"},
        {"6", "private void ask() { Runnable r = () -> { }; }"},
        {"6", "private void ask() { Runnable r = this::ask; }"},
        {"6", "private int ask() { return ((LevelForests) this).n; } private int n;"},
        {"8", "private int ask(int u) { return u == 0 ? 0 : ask(u - 1); }"},
        {"8", "private int ask(int u) { return tell(u); } private int tell(int u) { return ask(u); }"},
        {"8", "private void ask() { while (true) { } }"},
        {"8", "private void ask() { for (;;) { } }"},
        {"8", "private int ask(int u) { while (u != 0) { u /= 2; } return u; }"},
        {"8", "private int ask(int u) { do { u = 1; } while (u == 1); return u; }"},
        {"8", "private void ask(int u) { for (int i = 0; i < u; ) { } }"},
        {"8", "private void ask(int u) { for (int i = 0; u < 3; i++) { } }"},
        {"10", "private int ask(int a, int b, int c, int d, int e, int f, int g, int h) { return a; }"},
        {"10", "private int ask(int u) { return u; } private int tell() { int u = ask(1); return tell2(ask(u)); }"
            + " private int tell2(int u) { return u; }"},
        {"10", "private int ask(int u) { return u; } private int tell() { return ask(1 + (2 * ask(3))); }"},
        {"10", "private void ask() {" + "\n".repeat(80) + "}"},
        {"10", "private void a() { b(); } private void b() { c(); } private void c() { d(); } private void d() { e(); }"
            + " private void e() { f(); } private void f() { g(); } private void g() { }"},
        {"10", "private int " + manyNames(45) + ";"},
    };

    static final String[] FINE = {
        "",
        "public static final int BAD = -1; private static final long BIG = 1L << 40;",
        "private static final int N = 3; private final int[] a = new int[N]; private final boolean[] b = new boolean[4];",
        "private final long[] a; public LevelForests() { a = new long[12]; ask(); } private void ask() { a[0] = 1; }",
        "private int[] a = new int[3]; private int ask() { return tell(a) + a.length; }"
            + " private static int tell(int[] b) { return b[0]; }",
        "private int n; private int ask(int u) { this.n = (byte) u; return this.n + LevelForests.tell('a'); }"
            + " private static int tell(char c) { return c; }",
        "private int ask(int u) { int n = 0; while (u != 0 && n < 40) { u &= u - 1; n++; } return n; }",
        "private int ask(int u) { int n = 100; do { u ^= n; n -= 1; } while (n >= 0); return u; }",
        "private int ask(int u) { int n = 0; for (;;) { n++; if (n > 9) { break; } } return u; }",
        "private int[] a = new int[3]; private int ask() { int s = 0; for (int x : a) { s += x; } return s; }",
        "private int ask(int u) { int x = tell(u); return tell(x); } private int tell(int u) { return -u; }",
        "private int ask(int u) { return switch (u) { case 1 -> 2; default -> u % 7; }; }",
    };

    private static String manyNames(int count) {
        StringBuilder names = new StringBuilder("f0");
        for (int i = 1; i < count; i++) {
            names.append(", f").append(i);
        }
        return names.toString();
    }
}

/** One reading of one source: what it breaks, each as the rule's number, what, and the line. */
final class Reading extends TreePathScanner<Void, Void> {
    private static final int MOST_PARAMETERS = 7;
    private static final int MOST_LINES = 65;
    private static final int MOST_FIELDS = 42;
    private static final int DEEPEST = 6;
    private static final Set<TypeKind> NUMBERS = Set.of(TypeKind.BOOLEAN, TypeKind.BYTE, TypeKind.SHORT, TypeKind.INT,
        TypeKind.LONG, TypeKind.CHAR);
    private static final Set<Tree.Kind> ORDER = Set.of(Tree.Kind.LESS_THAN, Tree.Kind.LESS_THAN_EQUAL,
        Tree.Kind.GREATER_THAN, Tree.Kind.GREATER_THAN_EQUAL);

    private final Set<String> breaches = new TreeSet<>();
    private final Map<Element, Set<Element>> calls = new HashMap<>();
    private final Trees trees;
    private final CompilationUnitTree unit;
    private Element method;
    private boolean constructorCalled;

    private Reading(Trees trees, CompilationUnitTree unit) {
        this.trees = trees;
        this.unit = unit;
    }

    static Set<String> of(String source) {
        JavaFileObject file = new SimpleJavaFileObject(URI.create("string:///LevelForests.java"), JavaFileObject.Kind.SOURCE) {
            @Override
            public CharSequence getCharContent(boolean ignoreEncodingErrors) {
                return source;
            }
        };
        DiagnosticCollector<JavaFileObject> faults = new DiagnosticCollector<>();
        JavacTask task = (JavacTask) ToolProvider.getSystemJavaCompiler().getTask(null, null, faults,
            List.of("--release", "17", "-proc:none"), null, List.of(file));
        try {
            CompilationUnitTree unit = task.parse().iterator().next();
            task.analyze();
            Reading reading = new Reading(Trees.instance(task), unit);
            reading.scan(unit, null);
            reading.lookAtCalls();
            return reading.breaches;
        } catch (IOException e) {
            return Set.of("the source cannot be read: " + e);
        } finally {
            faults.getDiagnostics().stream().filter(d -> d.getKind() == javax.tools.Diagnostic.Kind.ERROR)
                .forEach(d -> System.out.println("does not compile: " + source + ": " + d));
        }
    }

    private void tell(int rule, String what, Tree tree) {
        long at = trees.getSourcePositions().getStartPosition(unit, tree);
        breaches.add(rule + ": " + what + (at < 0 ? "" : ", line " + unit.getLineMap().getLineNumber(at)));
    }

    private void tellIf(boolean broken, int rule, String what, Tree tree) {
        if (broken) {
            tell(rule, what, tree);
        }
    }

    // ---- rules 1, 5 and 10: the class and its members

    @Override
    public Void visitCompilationUnit(CompilationUnitTree tree, Void p) {
        tellIf(tree.getPackageName() != null, 1, "a package", tree);
        tellIf(tree.getTypeDecls().size() != 1, 1, "not one class", tree);
        tellIf(!tree.getImports().isEmpty(), 3, "an import", tree);
        return scan(tree.getTypeDecls(), p);
    }

    @Override
    public Void visitClass(ClassTree tree, Void p) {
        Set<Modifier> flags = tree.getModifiers().getFlags();
        boolean outermost = getCurrentPath().getParentPath().getLeaf() instanceof CompilationUnitTree;
        tellIf(!outermost, 1, "a class inside", tree);
        tellIf(outermost && !flags.containsAll(Set.of(Modifier.PUBLIC, Modifier.FINAL)), 1, "not public and final", tree);
        tellIf(tree.getExtendsClause() != null || !tree.getImplementsClause().isEmpty(), 3, "another class above", tree);
        lookAtNames(tree);
        int fields = 0;
        for (Tree member : tree.getMembers()) {
            if (member instanceof VariableTree field && !field.getModifiers().getFlags().contains(Modifier.STATIC)) {
                fields++;
            }
            tellIf(member instanceof BlockTree block && block.isStatic(), 5, "a static initialiser", member);
        }
        tellIf(fields > MOST_FIELDS, 10, "too many fields", tree);
        return super.visitClass(tree, p);
    }

    private void lookAtNames(ClassTree tree) {
        Set<String> open = new HashSet<>();
        Set<String> hidden = new HashSet<>();
        for (Tree member : tree.getMembers()) {
            Set<Modifier> flags = flagsOf(member);
            boolean shut = flags.contains(Modifier.PRIVATE);
            if (member instanceof MethodTree m) {
                (shut ? hidden : open).add(m.getName().toString());
            }
            boolean named = member instanceof MethodTree || member instanceof VariableTree;
            tellIf(named && !shut && !flags.contains(Modifier.PUBLIC), 1, "a member neither public nor private", member);
        }
        hidden.retainAll(open);
        tellIf(!hidden.isEmpty(), 1, "private methods with a public one's name " + hidden, tree);
    }

    private static Set<Modifier> flagsOf(Tree member) {
        if (member instanceof MethodTree m) {
            return m.getModifiers().getFlags();
        }
        return member instanceof VariableTree v ? v.getModifiers().getFlags() : Set.of();
    }

    @Override
    public Void visitMethod(MethodTree tree, Void p) {
        method = trees.getElement(getCurrentPath());
        constructorCalled = false;
        calls.putIfAbsent(method, new HashSet<>());
        boolean array = tree.getReturnType() instanceof ArrayTypeTree;
        tellIf(array, 4, "an array answered", tree);
        boolean locked = tree.getModifiers().getFlags().contains(Modifier.SYNCHRONIZED);
        tellIf(locked || !tree.getThrows().isEmpty(), 6, "synchronized or throws", tree);
        tellIf(tree.getModifiers().getFlags().contains(Modifier.NATIVE), 3, "native", tree);
        tellIf(tree.getParameters().size() > MOST_PARAMETERS, 10, "too many parameters", tree);
        tellIf(linesOf(tree) > MOST_LINES, 10, "too many lines", tree);
        super.visitMethod(tree, p);
        method = null;
        return null;
    }

    private long linesOf(Tree tree) {
        long start = trees.getSourcePositions().getStartPosition(unit, tree);
        long end = trees.getSourcePositions().getEndPosition(unit, tree);
        return end < 0 ? 0 : unit.getLineMap().getLineNumber(end) - unit.getLineMap().getLineNumber(start) + 1;
    }

    @Override
    public Void visitVariable(VariableTree tree, Void p) {
        TypeMirror type = trees.getTypeMirror(getCurrentPath());
        tellIf(type == null || !isNumberOrArray(type), 2, "the type of " + tree.getName(), tree);
        Element element = trees.getElement(getCurrentPath());
        if (element instanceof VariableElement field && field.getModifiers().contains(Modifier.STATIC)) {
            boolean whole = type != null && (type.getKind() == TypeKind.INT || type.getKind() == TypeKind.LONG);
            tellIf(!whole || field.getConstantValue() == null, 5, "not a constant: " + tree.getName(), tree);
        }
        return super.visitVariable(tree, p);
    }

    // ---- rules 2 and 3: types, and what is not of the program

    private static boolean isNumberOrArray(TypeMirror type) {
        TypeKind kind = type.getKind() == TypeKind.ARRAY ? ((ArrayType) type).getComponentType().getKind() : type.getKind();
        return NUMBERS.contains(kind);
    }

    @Override
    public Void scan(Tree tree, Void p) {
        if (tree instanceof ExpressionTree && getCurrentPath() != null) {
            lookAtExpression(new TreePath(getCurrentPath(), tree));
        }
        return super.scan(tree, p);
    }

    private void lookAtExpression(TreePath path) {
        Tree tree = path.getLeaf();
        Element element = trees.getElement(path);
        boolean named = tree instanceof IdentifierTree || tree instanceof MemberSelectTree;
        if (tree instanceof AnnotationTree) {
            tell(3, "an annotation", tree);
        } else if (named && element != null && element.getKind().isClass() || named && isOutside(element)) {
            boolean own = element.getSimpleName().contentEquals("LevelForests");
            tellIf(!own, 3, "not of the program: " + tree, tree);
        } else if (!isThisOrSuper(tree)) {
            lookAtType(path);
        }
    }

    private void lookAtType(TreePath path) {
        TypeMirror type = trees.getTypeMirror(path);
        boolean plain = type == null || isNumberOrArray(type) || type.getKind() == TypeKind.VOID
            || type.getKind() == TypeKind.EXECUTABLE;
        tellIf(!plain, 2, "the type of " + path.getLeaf(), path.getLeaf());
    }

    private static boolean isThisOrSuper(Tree tree) {
        return tree instanceof IdentifierTree name
            && (name.getName().contentEquals("this") || name.getName().contentEquals("super"));
    }

    /** The super() that the compiler writes into a constructor is not the program's. */
    private static boolean isOutside(Element element) {
        return element instanceof ExecutableElement && element.getKind() == ElementKind.METHOD
            && !element.getEnclosingElement().getSimpleName().contentEquals("LevelForests")
            || element != null && element.getKind() == ElementKind.INTERFACE;
    }

    // ---- rule 4: arrays

    @Override
    public Void visitNewClass(NewClassTree tree, Void p) {
        tell(4, "an object made", tree);
        return super.visitNewClass(tree, p);
    }

    @Override
    public Void visitNewArray(NewArrayTree tree, Void p) {
        boolean sized = tree.getInitializers() == null && tree.getDimensions().size() == 1;
        tellIf(!sized, 4, "an array without a length", tree);
        if (sized) {
            Long length = constantOf(tree.getDimensions().get(0));
            tellIf(length == null || length < 1, 4, "an array's length", tree);
        }
        tellIf(!isMadeAtTheStart(), 4, "an array made elsewhere than at the start", tree);
        tellIf(method != null && constructorCalled, 4, "an array made after a call", tree);
        return super.visitNewArray(tree, p);
    }

    private Long constantOf(ExpressionTree tree) {
        if (tree instanceof LiteralTree literal) {
            return literal.getValue() instanceof Integer value ? Long.valueOf(value) : null;
        }
        Element element = trees.getElement(TreePath.getPath(unit, tree));
        Object value = element instanceof VariableElement variable ? variable.getConstantValue() : null;
        return value instanceof Integer number ? Long.valueOf(number) : null;
    }

    private boolean isMadeAtTheStart() {
        for (TreePath path = getCurrentPath().getParentPath(); ; path = path.getParentPath()) {
            Tree tree = path.getLeaf();
            if (tree instanceof MethodTree m) {
                return m.getReturnType() == null;
            }
            if (tree instanceof VariableTree && path.getParentPath().getLeaf() instanceof ClassTree) {
                return true;
            }
            boolean straight = tree instanceof BlockTree || tree instanceof ExpressionStatementTree
                || tree instanceof AssignmentTree || tree instanceof VariableTree || tree instanceof ParenthesizedTree;
            if (!straight) {
                return false;
            }
        }
    }

    @Override
    public Void visitAssignment(AssignmentTree tree, Void p) {
        TreePath target = new TreePath(getCurrentPath(), tree.getVariable());
        Element element = trees.getElement(target);
        if (element != null && isArray(target)) {
            boolean field = element.getKind() == ElementKind.FIELD;
            boolean inMethod = method != null && method.getKind() == ElementKind.METHOD;
            tellIf(field && inMethod, 4, "an array field assigned to", tree);
            tellIf(!field && isInLoop(), 4, "an array's name that changes in a loop", tree);
        }
        return super.visitAssignment(tree, p);
    }

    private boolean isArray(TreePath path) {
        TypeMirror type = trees.getTypeMirror(path);
        return type != null && type.getKind() == TypeKind.ARRAY;
    }

    private boolean isInLoop() {
        for (Tree tree : getCurrentPath()) {
            if (tree instanceof ForLoopTree || tree instanceof WhileLoopTree || tree instanceof DoWhileLoopTree
                    || tree instanceof EnhancedForLoopTree) {
                return true;
            }
        }
        return false;
    }

    @Override
    public Void visitBinary(BinaryTree tree, Void p) {
        boolean equality = tree.getKind() == Tree.Kind.EQUAL_TO || tree.getKind() == Tree.Kind.NOT_EQUAL_TO;
        boolean arrays = isArray(new TreePath(getCurrentPath(), tree.getLeftOperand()))
            || isArray(new TreePath(getCurrentPath(), tree.getRightOperand()));
        tellIf(equality && arrays, 4, "arrays compared", tree);
        return super.visitBinary(tree, p);
    }

    // ---- rule 6: what is left out

    @Override
    public Void visitThrow(ThrowTree tree, Void p) {
        tell(6, "throw", tree);
        return super.visitThrow(tree, p);
    }

    @Override
    public Void visitTry(TryTree tree, Void p) {
        tell(6, "try", tree);
        return super.visitTry(tree, p);
    }

    @Override
    public Void visitSynchronized(SynchronizedTree tree, Void p) {
        tell(6, "synchronized", tree);
        return super.visitSynchronized(tree, p);
    }

    @Override
    public Void visitAssert(AssertTree tree, Void p) {
        tell(6, "assert", tree);
        return super.visitAssert(tree, p);
    }

    @Override
    public Void visitInstanceOf(InstanceOfTree tree, Void p) {
        tell(6, "instanceof", tree);
        return super.visitInstanceOf(tree, p);
    }

    @Override
    public Void visitLambdaExpression(LambdaExpressionTree tree, Void p) {
        tell(6, "lambda", tree);
        return super.visitLambdaExpression(tree, p);
    }

    @Override
    public Void visitMemberReference(MemberReferenceTree tree, Void p) {
        tell(6, "method reference", tree);
        return super.visitMemberReference(tree, p);
    }

    @Override
    public Void visitTypeCast(TypeCastTree tree, Void p) {
        tellIf(!(tree.getType() instanceof PrimitiveTypeTree), 6, "a cast of a reference", tree);
        return super.visitTypeCast(tree, p);
    }

    // ---- rule 8: loops

    @Override
    public Void visitForLoop(ForLoopTree tree, Void p) {
        lookAtLoop(tree, tree.getCondition());
        return super.visitForLoop(tree, p);
    }

    @Override
    public Void visitWhileLoop(WhileLoopTree tree, Void p) {
        lookAtLoop(tree, tree.getCondition());
        return super.visitWhileLoop(tree, p);
    }

    @Override
    public Void visitDoWhileLoop(DoWhileLoopTree tree, Void p) {
        lookAtLoop(tree, tree.getCondition());
        return super.visitDoWhileLoop(tree, p);
    }

    /** A counter is a variable that the loop changes and compares with a bound, in its head or,
     *  where the head says nothing, in an if of its body. */
    private void lookAtLoop(Tree loop, Tree condition) {
        Set<String> compared = comparedIn(condition);
        if (compared.isEmpty()) {
            new TreeScanner<Void, Void>() {
                @Override
                public Void visitIf(IfTree tree, Void p) {
                    compared.addAll(comparedIn(tree.getCondition()));
                    return super.visitIf(tree, p);
                }
            }.scan(loop, null);
        }
        compared.retainAll(changedIn(loop));
        tellIf(compared.isEmpty(), 8, "a loop without a counter against a bound", loop);
    }

    private static Set<String> comparedIn(Tree condition) {
        Set<String> names = new HashSet<>();
        new TreeScanner<Void, Void>() {
            @Override
            public Void visitBinary(BinaryTree tree, Void p) {
                if (ORDER.contains(tree.getKind())) {
                    names.add(tree.getLeftOperand().toString());
                    names.add(tree.getRightOperand().toString());
                }
                return super.visitBinary(tree, p);
            }
        }.scan(condition, null);
        return names;
    }

    private static Set<String> changedIn(Tree loop) {
        Set<String> names = new HashSet<>();
        new TreeScanner<Void, Void>() {
            @Override
            public Void visitUnary(UnaryTree tree, Void p) {
                String kind = tree.getKind().toString();
                if (kind.endsWith("INCREMENT") || kind.endsWith("DECREMENT")) {
                    names.add(tree.getExpression().toString());
                }
                return super.visitUnary(tree, p);
            }

            @Override
            public Void visitCompoundAssignment(CompoundAssignmentTree tree, Void p) {
                names.add(tree.getVariable().toString());
                return super.visitCompoundAssignment(tree, p);
            }

            @Override
            public Void visitAssignment(AssignmentTree tree, Void p) {
                boolean step = tree.getExpression() instanceof BinaryTree;
                names.addAll(step ? Set.of(tree.getVariable().toString()) : Set.of());
                return super.visitAssignment(tree, p);
            }
        }.scan(loop, null);
        return names;
    }

    // ---- rules 8 and 10: calls

    @Override
    public Void visitMethodInvocation(MethodInvocationTree tree, Void p) {
        Element called = trees.getElement(new TreePath(getCurrentPath(), tree.getMethodSelect()));
        boolean own = called != null && called.getKind() == ElementKind.METHOD;
        if (method != null && own) {
            calls.get(method).add(called);
        }
        boolean onObject = own && !called.getModifiers().contains(Modifier.STATIC);
        for (ExpressionTree argument : tree.getArguments()) {
            tellIf(hasCall(argument), 10, "a call inside the arguments of another", argument);
            boolean handed = method != null && method.getKind() == ElementKind.CONSTRUCTOR && onObject;
            tellIf(handed && isArray(new TreePath(getCurrentPath(), argument)), 4, "an array handed on too early", tree);
        }
        constructorCalled |= method != null && method.getKind() == ElementKind.CONSTRUCTOR && onObject;
        return super.visitMethodInvocation(tree, p);
    }

    private static boolean hasCall(Tree argument) {
        List<Tree> found = new ArrayList<>();
        new TreeScanner<Void, Void>() {
            @Override
            public Void visitMethodInvocation(MethodInvocationTree tree, Void p) {
                found.add(tree);
                return null;
            }
        }.scan(argument, null);
        return !found.isEmpty();
    }

    private void lookAtCalls() {
        for (Element start : calls.keySet()) {
            int depth = depthFrom(start, new ArrayList<>());
            if (depth < 0) {
                breaches.add("8: recursion through " + start);
            } else if (depth > DEEPEST) {
                breaches.add("10: calls too deep from " + start);
            }
        }
    }

    /** The methods on the longest way down, this one counted; -1 if a way comes back to itself. */
    private int depthFrom(Element from, List<Element> above) {
        if (above.contains(from)) {
            return -1;
        }
        List<Element> way = new ArrayList<>(above);
        way.add(from);
        int deepest = 0;
        for (Element next : calls.getOrDefault(from, Set.of())) {
            int depth = depthFrom(next, way);
            if (depth < 0) {
                return -1;
            }
            deepest = Math.max(deepest, depth);
        }
        return deepest + 1;
    }
}
