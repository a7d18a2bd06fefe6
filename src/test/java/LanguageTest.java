import com.sun.source.tree.AnnotationTree;
import com.sun.source.tree.ArrayTypeTree;
import com.sun.source.tree.AssertTree;
import com.sun.source.tree.AssignmentTree;
import com.sun.source.tree.BinaryTree;
import com.sun.source.tree.BlockTree;
import com.sun.source.tree.ClassTree;
import com.sun.source.tree.CompilationUnitTree;
import com.sun.source.tree.CompoundAssignmentTree;
import com.sun.source.tree.DoWhileLoopTree;
import com.sun.source.tree.EnhancedForLoopTree;
import com.sun.source.tree.ExpressionStatementTree;
import com.sun.source.tree.ExpressionTree;
import com.sun.source.tree.ForLoopTree;
import com.sun.source.tree.IdentifierTree;
import com.sun.source.tree.InstanceOfTree;
import com.sun.source.tree.LambdaExpressionTree;
import com.sun.source.tree.LiteralTree;
import com.sun.source.tree.MemberReferenceTree;
import com.sun.source.tree.MemberSelectTree;
import com.sun.source.tree.MethodInvocationTree;
import com.sun.source.tree.MethodTree;
import com.sun.source.tree.NewArrayTree;
import com.sun.source.tree.NewClassTree;
import com.sun.source.tree.ParenthesizedTree;
import com.sun.source.tree.PrimitiveTypeTree;
import com.sun.source.tree.SynchronizedTree;
import com.sun.source.tree.ThrowTree;
import com.sun.source.tree.Tree;
import com.sun.source.tree.Tree.Kind;
import com.sun.source.tree.TryTree;
import com.sun.source.tree.TypeCastTree;
import com.sun.source.tree.UnaryTree;
import com.sun.source.tree.VariableTree;
import com.sun.source.tree.WhileLoopTree;
import com.sun.source.util.JavacTask;
import com.sun.source.util.SourcePositions;
import com.sun.source.util.TreePathScanner;
import com.sun.source.util.TreeScanner;
import com.sun.source.util.Trees;
import java.io.IOException;
import java.net.URI;
import java.nio.file.Files;
import java.nio.file.Path;
import java.util.HashMap;
import java.util.HashSet;
import java.util.List;
import java.util.Map;
import java.util.Set;
import java.util.TreeSet;
import javax.lang.model.element.Modifier;
import javax.lang.model.type.TypeKind;
import javax.tools.JavaCompiler;
import javax.tools.JavaFileObject;
import javax.tools.SimpleJavaFileObject;
import javax.tools.ToolProvider;

/**
 * The class keeps to LANGUAGE.md, as far as its source shows. Where a rule leaves room that the
 * class does not use (other loops than counted ones, arrays in local variables or made in the
 * constructor, division), this test refuses it too, because the plain form is the easier one to
 * check. That no index is out of bounds (rule 7) is for the tests that call the class.
 */
public final class LanguageTest extends TreePathScanner<Void, Void> {
    private static final int MOST_PARAMETERS = 7;
    private static final int MOST_LINES = 60;
    private static final int MOST_DEEP = 6;
    private static final int MOST_FIELDS = 40;
    private static final Set<Kind> COMPARISONS = Set.of(Kind.LESS_THAN, Kind.LESS_THAN_EQUAL, Kind.GREATER_THAN,
        Kind.GREATER_THAN_EQUAL);
    private static final Set<Kind> STEPS = Set.of(Kind.POSTFIX_INCREMENT, Kind.POSTFIX_DECREMENT,
        Kind.PREFIX_INCREMENT, Kind.PREFIX_DECREMENT);
    private static final Set<Kind> DIVISIONS = Set.of(Kind.DIVIDE, Kind.REMAINDER, Kind.DIVIDE_ASSIGNMENT,
        Kind.REMAINDER_ASSIGNMENT);

    /**
     * Members of small classes, each with the rule that it breaks, or 0 if it breaks none, so that
     * this test is known to see each kind of break.
     */
    private static final String[] EXAMPLES = {
        "0: private int n; public int f(int a) { for (int k = 0; k < a; k++) { n++; } return n; }",
        "0: private static final int A = 2; private final int[] b = new int[A + 1];",
        "0: private int b() { return (int) 1L; } public int f(int a) { return b(); }",
        "1: int n;",
        "1: public int n;",
        "1: int f() { return 0; }",
        "1: protected int f() { return 0; }",
        "1: private static class Other { }",
        "1: private enum Other { ONE }",
        "1: public int f() { return f(1); } private int f(int a) { return a; }",
        "1: } class Other {",
        "2: private String s;",
        "2: private int[][] s;",
        "2: private double s;",
        "2: public int f() { float g = 1; return 0; }",
        "2: public int f() { var g = 1; return g; }",
        "2: public int f() { return (int) 1.5; }",
        "3: public int f(int a) { return Math.abs(a); }",
        "3: public int f(int a) { return hashCode(); }",
        "3: public int f(int a) { return this.hashCode(); }",
        "3: public int f(int a) { return Integer.MAX_VALUE; }",
        "3: @Deprecated public int f(int a) { return a; }",
        "4: public int f() { int[] a = new int[3]; return a[0]; }",
        "4: private final int[] a = {1, 2};",
        "4: private int n; private final int[] a = new int[n];",
        "4: private int[] a = new int[3]; private int[] b() { return a; }",
        "4: private int[] a = new int[3]; private void b(int[] c) { a = c; }",
        "4: private int[] a = new int[3]; private boolean b() { return a == null; }",
        "4: private int[] a = new int[3]; private boolean b(int[] c) { return c != a; }",
        "4: private void b() { new EditedText(); }",
        "5: private static int n;",
        "5: private static final int[] A = new int[3];",
        "5: private static final boolean A = true;",
        "5: static { }",
        "6: public void f() { throw null; }",
        "6: public void f() { try { } finally { } }",
        "6: public void f() { synchronized (this) { } }",
        "6: public synchronized void f() { }",
        "6: public void f(int a) { assert a == 0; }",
        "6: public boolean f() { return this instanceof EditedText; }",
        "6: public void f() throws Error { }",
        "6: private Runnable f() { return () -> { }; }",
        "6: private Runnable f() { return this::f; }",
        "6: private void f() { Object o = (Object) this; }",
        "7: public int f(int a) { return 1 / a; }",
        "7: public int f(int a) { a %= a; return a; }",
        "8: public int f(int a) { return a == 0 ? 0 : f(a - 1); }",
        "8: public int f(int a) { return g(a); } private int g(int a) { return f(a); }",
        "8: public void f(int a) { while (a > 0) { a--; } }",
        "8: public void f(int a) { do { a--; } while (a > 0); }",
        "8: public void f(int a) { for (;;) { } }",
        "8: public void f(int a) { for (int k = 0; k < a; k++) { k--; } }",
        "8: public void f(int a) { for (int k = 0; k < a; k++) { a += 1; } }",
        "8: public void f(int a) { for (int k = 0; k < a; k--) { } }",
        "8: public void f(int a) { for (int k = 0; k < a; a++) { } }",
        "8: public void f(int a) { for (int k = 0; k != a; k++) { } }",
        "10: public void f(int a, int b, int c, int d, int e, int g, int h, int i) { }",
        "10: private int g(int a) { return a; } public int f(int a) { return g(1 + g(a)); }",
        "10: public void a() { b(); } private void b() { c(); } private void c() { d(); }"
            + " private void d() { e(); } private void e() { f(); } private void f() { g(); } private void g() { }",
    };

    private final Set<Integer> broken = new TreeSet<>();
    private final StringBuilder words = new StringBuilder();
    private final Set<String> publicMethods = new HashSet<>();
    private final Set<String> privateMethods = new HashSet<>();
    private final Set<String> arrays = new HashSet<>();
    private final Set<String> constants = new HashSet<>();
    private final Map<String, Set<String>> calls = new HashMap<>();
    private final CompilationUnitTree unit;
    private final SourcePositions positions;
    private String method = "";
    private int fields = 0;

    private LanguageTest(String source) throws IOException {
        JavaCompiler compiler = ToolProvider.getSystemJavaCompiler();
        JavaFileObject file = new SimpleJavaFileObject(URI.create("string:///EditedText.java"),
                JavaFileObject.Kind.SOURCE) {
            @Override
            public CharSequence getCharContent(boolean ignoreErrors) {
                return source;
            }
        };
        JavacTask task = (JavacTask) compiler.getTask(null, null, null, null, null, List.of(file));
        unit = task.parse().iterator().next();
        positions = Trees.instance(task).getSourcePositions();
        lookAtTheUnit();
        scan(unit, null);
        lookAtTheCalls();
    }

    public static void main(String[] args) throws IOException {
        int failures = 0;
        LanguageTest ours = new LanguageTest(Files.readString(Path.of("src/main/java/EditedText.java")));
        if (!ours.broken.isEmpty()) {
            failures++;
            System.out.print(ours.words);
        }
        failures += unseenExamples();
        System.out.println(failures == 0 ? "the class keeps to the language" : failures + " faults");
        if (failures != 0) {
            System.exit(1);
        }
    }

    private void broke(int rule, Tree where, String what) {
        long line = unit.getLineMap().getLineNumber(Math.max(0, positions.getStartPosition(unit, where)));
        broken.add(rule);
        words.append("rule ").append(rule).append(", line ").append(line).append(": ").append(what).append('\n');
    }

    private void breaks(boolean holds, int rule, Tree where, String what) {
        if (holds) {
            broke(rule, where, what);
        }
    }

    // Rules 1 and 3: what the file has beside the class

    private void lookAtTheUnit() {
        breaks(unit.getPackage() != null, 1, unit, "a package line");
        breaks(!unit.getImports().isEmpty(), 3, unit, "an import");
        breaks(unit.getTypeDecls().size() != 1, 1, unit, "not one class");
        for (Tree type : unit.getTypeDecls()) {
            if (type instanceof ClassTree) {
                lookAtTheFace((ClassTree) type);
            }
        }
    }

    private void lookAtTheFace(ClassTree type) {
        breaks(!type.getModifiers().getFlags().equals(Set.of(Modifier.PUBLIC, Modifier.FINAL)), 1, type,
            "not public and final alone");
        breaks(type.getExtendsClause() != null || !type.getImplementsClause().isEmpty(), 3, type, "another class");
        for (Tree member : type.getMembers()) {
            if (member instanceof MethodTree) {
                MethodTree m = (MethodTree) member;
                boolean open = m.getModifiers().getFlags().contains(Modifier.PUBLIC);
                (open ? publicMethods : privateMethods).add(m.getName().toString());
                lookAtVisibility(m.getModifiers().getFlags(), m);
            } else if (member instanceof VariableTree) {
                lookAtField((VariableTree) member);
            } else if (member instanceof BlockTree) {
                broke(5, member, "an initialiser");
            }
        }
        for (String name : privateMethods) {
            breaks(publicMethods.contains(name), 1, type, "a private method with a public one's name: " + name);
        }
        breaks(fields > MOST_FIELDS, 10, type, fields + " fields");
    }

    private void lookAtVisibility(Set<Modifier> flags, Tree member) {
        breaks(!flags.contains(Modifier.PUBLIC) && !flags.contains(Modifier.PRIVATE), 1, member,
            "neither public nor private");
    }

    private void lookAtField(VariableTree field) {
        Set<Modifier> flags = field.getModifiers().getFlags();
        lookAtVisibility(flags, field);
        if (field.getType() instanceof ArrayTypeTree) {
            arrays.add(field.getName().toString());
        }
        if (!flags.contains(Modifier.STATIC)) {
            fields++;
            breaks(flags.contains(Modifier.PUBLIC), 1, field, "a public field");
            return;
        }
        boolean whole = isPrimitive(field.getType(), TypeKind.INT) || isPrimitive(field.getType(), TypeKind.LONG);
        breaks(!whole || !flags.contains(Modifier.FINAL) || !isConstant(field.getInitializer()), 5, field,
            "a static field that is no constant: " + field.getName());
        constants.add(field.getName().toString());
    }

    private boolean isPrimitive(Tree type, TypeKind kind) {
        return type instanceof PrimitiveTypeTree && ((PrimitiveTypeTree) type).getPrimitiveTypeKind() == kind;
    }

    private boolean isConstant(ExpressionTree e) {
        if (e instanceof BinaryTree) {
            return isConstant(((BinaryTree) e).getLeftOperand()) && isConstant(((BinaryTree) e).getRightOperand());
        }
        if (e instanceof UnaryTree) {
            return isConstant(((UnaryTree) e).getExpression());
        }
        if (e instanceof ParenthesizedTree) {
            return isConstant(((ParenthesizedTree) e).getExpression());
        }
        return e instanceof LiteralTree || e instanceof IdentifierTree && constants.contains(e.toString());
    }

    @Override
    public Void visitClass(ClassTree node, Void none) {
        breaks(getCurrentPath().getParentPath().getLeaf() != unit, 1, node, "a class within");
        return super.visitClass(node, none);
    }

    // Rules 2, 3 and 6: types, other classes, and what throws

    private void lookAtType(Tree type, Tree where) {
        Tree plain = type instanceof ArrayTypeTree ? ((ArrayTypeTree) type).getType() : type;
        breaks(!(plain instanceof PrimitiveTypeTree), 2, where, "no whole number, boolean, or array of these");
    }

    @Override
    public Void visitPrimitiveType(PrimitiveTypeTree node, Void none) {
        TypeKind kind = node.getPrimitiveTypeKind();
        breaks(kind == TypeKind.FLOAT || kind == TypeKind.DOUBLE, 2, node, "float or double");
        return null;
    }

    @Override
    public Void visitLiteral(LiteralTree node, Void none) {
        breaks(Set.of(Kind.STRING_LITERAL, Kind.FLOAT_LITERAL, Kind.DOUBLE_LITERAL).contains(node.getKind()), 2, node,
            "a literal " + node);
        breaks(node.getKind() == Kind.NULL_LITERAL, 4, node, "null");
        return null;
    }

    @Override
    public Void visitMemberSelect(MemberSelectTree node, Void none) {
        breaks(!node.getIdentifier().contentEquals("length") || !arrays.contains(node.getExpression().toString()), 3,
            node, "a member of something else: " + node);
        return super.visitMemberSelect(node, none);
    }

    @Override
    public Void visitAnnotation(AnnotationTree node, Void none) {
        broke(3, node, "an annotation");
        return null;
    }

    @Override
    public Void visitTypeCast(TypeCastTree node, Void none) {
        breaks(!(node.getType() instanceof PrimitiveTypeTree), 6, node, "a cast of a reference");
        return super.visitTypeCast(node, none);
    }

    @Override
    public Void visitThrow(ThrowTree node, Void none) {
        broke(6, node, "throw");
        return super.visitThrow(node, none);
    }

    @Override
    public Void visitTry(TryTree node, Void none) {
        broke(6, node, "try");
        return super.visitTry(node, none);
    }

    @Override
    public Void visitSynchronized(SynchronizedTree node, Void none) {
        broke(6, node, "synchronized");
        return super.visitSynchronized(node, none);
    }

    @Override
    public Void visitAssert(AssertTree node, Void none) {
        broke(6, node, "assert");
        return super.visitAssert(node, none);
    }

    @Override
    public Void visitInstanceOf(InstanceOfTree node, Void none) {
        broke(6, node, "instanceof");
        return super.visitInstanceOf(node, none);
    }

    @Override
    public Void visitLambdaExpression(LambdaExpressionTree node, Void none) {
        broke(6, node, "a lambda");
        return super.visitLambdaExpression(node, none);
    }

    @Override
    public Void visitMemberReference(MemberReferenceTree node, Void none) {
        broke(6, node, "a method reference");
        return super.visitMemberReference(node, none);
    }

    // Rule 4: arrays and objects

    @Override
    public Void visitNewArray(NewArrayTree node, Void none) {
        Tree maker = getCurrentPath().getParentPath().getLeaf();
        boolean inField = method.isEmpty() && maker instanceof VariableTree;
        breaks(!inField, 4, node, "an array that no field's initialiser makes");
        boolean plain = node.getInitializers() == null && node.getDimensions().size() == 1;
        breaks(!plain || !isConstant(node.getDimensions().get(0)), 4, node, "an array without a constant length");
        return super.visitNewArray(node, none);
    }

    @Override
    public Void visitNewClass(NewClassTree node, Void none) {
        broke(4, node, "an object is made");
        return super.visitNewClass(node, none);
    }

    @Override
    public Void visitAssignment(AssignmentTree node, Void none) {
        breaks(arrays.contains(node.getVariable().toString()), 4, node, "an array field is assigned");
        return super.visitAssignment(node, none);
    }

    @Override
    public Void visitVariable(VariableTree node, Void none) {
        lookAtType(node.getType(), node);
        Tree parent = getCurrentPath().getParentPath().getLeaf();
        boolean local = !(parent instanceof ClassTree) && !(parent instanceof MethodTree);
        breaks(local && node.getType() instanceof ArrayTypeTree, 4, node, "a local variable names an array");
        return super.visitVariable(node, none);
    }

    // Rules 4 and 7: comparing and dividing

    @Override
    public Void visitBinary(BinaryTree node, Void none) {
        boolean compares = node.getKind() == Kind.EQUAL_TO || node.getKind() == Kind.NOT_EQUAL_TO;
        breaks(compares && (arrays.contains(node.getLeftOperand().toString())
            || arrays.contains(node.getRightOperand().toString())), 4, node, "arrays are compared");
        breaks(DIVISIONS.contains(node.getKind()), 7, node, "a division");
        return super.visitBinary(node, none);
    }

    @Override
    public Void visitCompoundAssignment(CompoundAssignmentTree node, Void none) {
        breaks(DIVISIONS.contains(node.getKind()), 7, node, "a division");
        return super.visitCompoundAssignment(node, none);
    }

    // Rule 8: loops

    @Override
    public Void visitWhileLoop(WhileLoopTree node, Void none) {
        broke(8, node, "a loop without a counter");
        return super.visitWhileLoop(node, none);
    }

    @Override
    public Void visitDoWhileLoop(DoWhileLoopTree node, Void none) {
        broke(8, node, "a loop without a counter");
        return super.visitDoWhileLoop(node, none);
    }

    @Override
    public Void visitEnhancedForLoop(EnhancedForLoopTree node, Void none) {
        broke(8, node, "a loop without a counter");
        return super.visitEnhancedForLoop(node, none);
    }

    @Override
    public Void visitForLoop(ForLoopTree node, Void none) {
        boolean counted = node.getInitializer().size() == 1 && node.getInitializer().get(0) instanceof VariableTree
            && node.getCondition() instanceof BinaryTree && node.getUpdate().size() == 1;
        if (!counted || !COMPARISONS.contains(node.getCondition().getKind())) {
            broke(8, node, "a loop without a counter against a bound");
        } else {
            lookAtCounter(node, ((VariableTree) node.getInitializer().get(0)).getName().toString());
        }
        return super.visitForLoop(node, none);
    }

    private void lookAtCounter(ForLoopTree node, String counter) {
        BinaryTree condition = (BinaryTree) node.getCondition();
        ExpressionTree step = ((ExpressionStatementTree) node.getUpdate().get(0)).getExpression();
        boolean steps = STEPS.contains(step.getKind()) && ((UnaryTree) step).getExpression().toString().equals(counter);
        boolean upward = condition.getKind() == Kind.LESS_THAN || condition.getKind() == Kind.LESS_THAN_EQUAL;
        boolean increments = step.getKind() == Kind.POSTFIX_INCREMENT || step.getKind() == Kind.PREFIX_INCREMENT;
        breaks(!steps || !condition.getLeftOperand().toString().equals(counter) || upward != increments, 8, node,
            "a counter that does not go to its bound");
        Set<String> assigned = assignedIn(node.getStatement());
        breaks(assigned.contains(counter) || assigned.contains(condition.getRightOperand().toString()), 8, node,
            "a counter or bound that the loop itself changes");
    }

    private Set<String> assignedIn(Tree body) {
        Set<String> names = new HashSet<>();
        new TreeScanner<Void, Void>() {
            @Override
            public Void visitAssignment(AssignmentTree node, Void none) {
                names.add(node.getVariable().toString());
                return super.visitAssignment(node, none);
            }

            @Override
            public Void visitCompoundAssignment(CompoundAssignmentTree node, Void none) {
                names.add(node.getVariable().toString());
                return super.visitCompoundAssignment(node, none);
            }

            @Override
            public Void visitUnary(UnaryTree node, Void none) {
                if (STEPS.contains(node.getKind())) {
                    names.add(node.getExpression().toString());
                }
                return super.visitUnary(node, none);
            }
        }.scan(body, null);
        return names;
    }

    // Rules 3, 8 and 10: methods and calls

    @Override
    public Void visitMethod(MethodTree node, Void none) {
        method = node.getName().toString();
        calls.putIfAbsent(method, new HashSet<>());
        if (node.getReturnType() != null) {
            lookAtType(node.getReturnType(), node);
        }
        breaks(node.getReturnType() instanceof ArrayTypeTree, 4, node, "a method answers an array");
        breaks(!node.getThrows().isEmpty(), 6, node, "a method that throws");
        breaks(node.getModifiers().getFlags().contains(Modifier.SYNCHRONIZED), 6, node, "synchronized");
        breaks(node.getParameters().size() > MOST_PARAMETERS, 10, node, "too many parameters");
        long first = unit.getLineMap().getLineNumber(positions.getStartPosition(unit, node));
        long last = unit.getLineMap().getLineNumber(positions.getEndPosition(unit, node));
        breaks(last - first + 1 > MOST_LINES, 10, node, "a long method");
        super.visitMethod(node, none);
        method = "";
        return null;
    }

    @Override
    public Void visitMethodInvocation(MethodInvocationTree node, Void none) {
        String name = node.getMethodSelect().toString();
        boolean ours = publicMethods.contains(name) || privateMethods.contains(name);
        breaks(!ours, 3, node, "a call of what is not in the class: " + name);
        calls.computeIfAbsent(method, m -> new HashSet<>()).add(name);
        for (ExpressionTree argument : node.getArguments()) {
            breaks(hasCall(argument), 10, node, "a call inside the arguments of another call");
        }
        return super.visitMethodInvocation(node, none);
    }

    private boolean hasCall(Tree tree) {
        boolean[] found = {false};
        new TreeScanner<Void, Void>() {
            @Override
            public Void visitMethodInvocation(MethodInvocationTree node, Void none) {
                found[0] = true;
                return null;
            }
        }.scan(tree, null);
        return found[0];
    }

    private void lookAtTheCalls() {
        for (String name : calls.keySet()) {
            int deep = depthFrom(name, 1);
            breaks(deep > calls.size(), 8, unit, "recursion from " + name);
            breaks(deep > MOST_DEEP, 10, unit, "calls go " + deep + " deep from " + name);
        }
    }

    /** A way of calls that is longer than there are methods meets one of them twice. */
    private int depthFrom(String name, int deep) {
        int most = deep;
        if (deep <= calls.size()) {
            for (String called : calls.getOrDefault(name, Set.of())) {
                most = calls.containsKey(called) ? Math.max(most, depthFrom(called, deep + 1)) : most;
            }
        }
        return most;
    }

    // Whether this test sees what it looks for

    private static int unseenExamples() throws IOException {
        int unseen = 0;
        for (String example : EXAMPLES) {
            int colon = example.indexOf(':');
            unseen += unseen(Integer.parseInt(example.substring(0, colon)), inClass(example.substring(colon + 1)));
        }
        unseen += unseen(1, "package one; " + inClass(""));
        unseen += unseen(1, "public class EditedText { }");
        unseen += unseen(3, "import java.util.List; " + inClass(""));
        unseen += unseen(3, "public final class EditedText extends Thread { }");
        unseen += unseen(10, inClass("public void f() { " + "\n".repeat(MOST_LINES) + " }"));
        unseen += unseen(0, inClass("public void f() { " + "\n".repeat(MOST_LINES - 1) + " }"));
        unseen += unseen(10, inClass(manyFields(MOST_FIELDS + 1)));
        unseen += unseen(0, inClass(manyFields(MOST_FIELDS)));
        return unseen;
    }

    private static String inClass(String members) {
        return "public final class EditedText { " + members + " }";
    }

    private static String manyFields(int count) {
        StringBuilder fields = new StringBuilder();
        for (int k = 0; k < count; k++) {
            fields.append("private int f").append(k).append(";");
        }
        return fields.toString();
    }

    private static int unseen(int rule, String source) throws IOException {
        LanguageTest made = new LanguageTest(source);
        boolean seen = rule == 0 ? made.broken.isEmpty() : made.broken.contains(rule);
        if (!seen) {
            System.out.println("rule " + rule + " is due, and " + made.broken + " are told, of " + source);
        }
        return seen ? 0 : 1;
    }
}
