import com.sun.source.tree.*;
import com.sun.source.util.JavacTask;
import com.sun.source.util.TreePath;
import com.sun.source.util.TreePathScanner;
import com.sun.source.util.TreeScanner;
import com.sun.source.util.Trees;
import java.net.URI;
import java.nio.file.Files;
import java.nio.file.Path;
import java.util.ArrayList;
import java.util.HashMap;
import java.util.HashSet;
import java.util.List;
import java.util.Map;
import java.util.Set;
import javax.lang.model.element.Element;
import javax.lang.model.element.Modifier;
import javax.lang.model.element.VariableElement;
import javax.lang.model.type.ArrayType;
import javax.lang.model.type.TypeKind;
import javax.lang.model.type.TypeMirror;
import javax.tools.DiagnosticCollector;
import javax.tools.JavaFileObject;
import javax.tools.SimpleJavaFileObject;
import javax.tools.ToolProvider;

/**
 * The rules of LANGUAGE.md, looked for in the compiler's own tree of the program. Small classes that break one rule each
 * come first: a rule whose breaking is not seen there would not be seen in the program either.
 *
 * In three places the test is stricter than the rule, as the program needs no more: arrays are made in the fields'
 * initialisers alone, a loop is a for with its own counter going up by one, and a divisor is a constant. What rule 7 says
 * of indices is not seen in a tree; the other tests, with any arguments in any state, stand for it.
 */
public final class SumCheckLanguage {
    private static final int MOST_PARAMETERS = 7;
    private static final int MOST_LINES = 60;
    private static final int DEEPEST = 6;
    private static final int MOST_FIELDS = 40;
    private static int wrong = 0;

    public static void main(String[] args) throws Exception {
        brokenClassesAreSeen();
        soundClassesPass();
        for (String fault : faults(Files.readString(Path.of("src/main/java/SumCheck.java")))) {
            wrong++;
            System.out.println(fault);
        }
        System.out.println(wrong == 0 ? "the rules that a tree shows are kept" : wrong + " faults");
        if (wrong != 0) {
            System.exit(1);
        }
    }

    // The classes that the test is tried on first.

    private static final String HEAD = "public final class SumCheck {\n";
    private static final String BODY = "    private int n = 3;\n    private final int[] list = new int[4];\n"
        + "    public SumCheck(int variables) { n = variables; }\n    public int open(int a) { return helper(a); }\n"
        + "    private int helper(int a) { return a + n; }\n";

    private static void brokenClassesAreSeen() throws Exception {
        seen(1, "package some;\n" + HEAD + BODY + "}\n");
        seen(1, HEAD + BODY + "}\nfinal class Second { }\n");
        seen(1, "public class SumCheck {\n" + BODY + "}\n");
        seen(1, "public final class SumCheck implements Runnable {\n" + BODY + "public void run() { }\n}\n");
        seen(3, "import java.util.List;\n" + HEAD + BODY + "}\n");
        seenMembers(1, "private static class Inner { }", "private enum Kind { ONE }", "private record Pair(int a, int b) { }",
            "private interface Face { }", "int visible = 1;", "protected int near() { return 1; }", "SumCheck(long a) { }",
            "private int open(int a, int b) { return a + b; }");
        seenMembers(2, "private double d = 1;", "private int f(int a) { return (int) 1.5; }", "private String s;",
            "private int f(int[][] a) { return 1; }", "private int f(int a) { return (int) (a * 2f); }",
            "private int f() { var half = 0.5; return 1; }", "private boolean f() { return \"a\" == \"b\"; }",
            "private SumCheck other;", "private SumCheck f() { return this; }");
        seenMembers(3, "private int f(int a) { return Math.abs(a); }", "private int f() { return list.clone().length; }",
            "private int f() { return hashCode(); }", "private int f() { return this.hashCode(); }",
            "private long f() { return java.lang.System.nanoTime(); }", "private int f() { return Integer.MAX_VALUE; }");
        seenMembers(4, "private int f() { int[] a = new int[3]; return a[0]; }", "private final int[] z = new int[0];",
            "private final int[] z = {1, 2};", "private final int[] z = new int[] {1};", "private final int[] z = new int[n];",
            "private int[] f() { return list; }", "private boolean f(int[] a) { return a == list; }",
            "private boolean f() { return list != null; }", "private int f() { return new SumCheck(1).n; }",
            "private int[] w = new int[2]; private void f() { w = list; }",
            "private int[] w; private SumCheck(long a) { if (a > 0) { w = new int[2]; } }",
            "private SumCheck(long a) { take(list); } private void take(int[] z) { }");
        seenMembers(5, "private static int s = 1;", "private static final int[] TABLE = new int[3];", "static { }",
            "private static final boolean YES = true;", "private static final int LATE; static { LATE = 1; }",
            "private static final short SMALL = 1;");
        seenMembers(6, "private void f() { throw new RuntimeException(); }", "private void f() { try { n = 1; } finally { n = 2; } }",
            "private void f() { synchronized (this) { n = 1; } }", "private synchronized void f() { }",
            "private void f() { assert n > 0; }", "private boolean f() { return this instanceof SumCheck; }",
            "private void f() { Runnable r = () -> { }; }", "private void f() { Runnable r = this::f; }",
            "private int f() { return ((SumCheck) this).n; }", "private void f() throws Exception { }");
        seenMembers(7, "private int f(int a) { return 1 / a; }", "private int f(int a) { return 1 % a; }",
            "private void f(int a) { n /= a; }", "private void f(int a) { n %= a; }", "private int f() { return n % 0; }");
        seenMembers(8, "private int f(int a) { return a < 1 ? 0 : f(a - 1); }",
            "private int f(int a) { return g(a); } private int g(int a) { return f(a); }",
            "private void f() { while (n > 0) { n--; } }", "private void f() { do { n--; } while (n > 0); }",
            "private void f() { for (;;) { n++; } }", "private void f() { for (int i = 0; i < n; ) { n--; } }",
            "private void f() { for (int i = 0; i < n; i--) { helper(i); } }",
            "private void f() { for (int i = 0; i <= n; i++) { helper(i); } }",
            "private void f(int k) { for (int i = 0; k < n; i++) { helper(i); } }",
            "private void f() { for (int i = 0; i < n; i++) { i = 0; } }", "private void f() { for (int i = 0; i < n; i++) { i--; } }",
            "private void f() { for (int i = 0; i < n; i++) { n += 1; } }",
            "private void f() { for (int i = 0; i < n; i++) { this.n = 9; } }",
            "private void f() { for (int i = 0; i < n / 2; i++) { g(); } } private void g() { h(); } private void h() { n++; }",
            "private void f() { for (int i = 0; i < helper(i); i++) { n++; } }",
            "private void f() { for (int i = 0; i < list[0]; i++) { list[0]++; } }",
            "private void f() { for (int i = 0; i < n + i; i++) { helper(i); } }");
        seenMembers(10, "private int f(int a, int b, int c, int d, int e, int g, int h, int i) { return a; }",
            "private int f(int a) { return helper(helper(a)); }", "private int f(int a) { return helper(1 + (a + helper(a))); }",
            method(MOST_LINES + 1), chain(DEEPEST + 1), fields(MOST_FIELDS - 1));
    }

    private static void soundClassesPass() throws Exception {
        passes("private int f(int a, int b, int c, int d, int e, int g, int h) { return a; }");
        passes("private static final int ONE = 1; private static final long TWO = 2L * ONE; private final long[] z = new long[ONE];");
        passes("private int f(int a) { int once = helper(a); return helper(once) / 2 % 3; }");
        passes("private int f() { return take(list); } private int take(int[] z) { int[] same = z; return same[0] + z.length; }");
        passes("private long f(int a) { switch (a) { case 1: return (long) a; default: return a > 2 ? 1 : 'c'; } }");
        passes("private int f(int a) { int sum = 0; out: for (int i = 0; i < n / 2 + a; i++) { for (int k = 0; k < i; k++) {"
            + " if (k == 7) { break out; } sum += list[k & 3]; list[k & 3] = sum; } } return sum; }");
        passes(method(MOST_LINES));
        passes(chain(DEEPEST));
        passes(fields(MOST_FIELDS - 2));
    }

    private static String method(int lines) {
        return "private void f() {\n" + "n++;\n".repeat(lines - 2) + "}";
    }

    private static String chain(int methods) {
        StringBuilder text = new StringBuilder();
        for (int i = 1; i < methods; i++) {
            text.append("private void c").append(i).append("() { c").append(i + 1).append("(); }\n");
        }
        return text.append("private void c").append(methods).append("() { n++; }").toString();
    }

    private static String fields(int count) {
        StringBuilder text = new StringBuilder();
        for (int i = 0; i < count; i++) {
            text.append("private int x").append(i).append(";\n");
        }
        return text.toString();
    }

    private static void seenMembers(int rule, String... members) throws Exception {
        for (String member : members) {
            seen(rule, HEAD + BODY + member + "\n}\n");
        }
    }

    private static void seen(int rule, String text) throws Exception {
        List<String> found = faults(text);
        if (found.stream().noneMatch(fault -> fault.startsWith("rule " + rule + ","))) {
            wrong++;
            System.out.println("the test does not see rule " + rule + " broken, but " + found + ", in\n" + text);
        }
    }

    private static void passes(String member) throws Exception {
        String text = HEAD + BODY + member + "\n}\n";
        List<String> found = faults(text);
        if (!found.isEmpty()) {
            wrong++;
            System.out.println("the test sees " + found + " in\n" + text);
        }
    }

    // How a class is read.

    private static List<String> faults(String text) throws Exception {
        JavaFileObject file = new SimpleJavaFileObject(URI.create("string:///SumCheck.java"), JavaFileObject.Kind.SOURCE) {
            @Override
            public CharSequence getCharContent(boolean ignoreEncodingErrors) {
                return text;
            }
        };
        DiagnosticCollector<JavaFileObject> diagnostics = new DiagnosticCollector<>();
        JavacTask task = (JavacTask) ToolProvider.getSystemJavaCompiler()
            .getTask(null, null, diagnostics, List.of("--release", "17", "-proc:none"), null, List.of(file));
        CompilationUnitTree unit = task.parse().iterator().next();
        task.analyze();
        List<String> found = new ArrayList<>();
        diagnostics.getDiagnostics().stream().filter(d -> d.getKind() == javax.tools.Diagnostic.Kind.ERROR)
            .forEach(d -> found.add("does not compile: " + d));
        if (found.isEmpty()) {
            Reader reader = new Reader(Trees.instance(task), unit, found);
            reader.scan(new TreePath(unit), null);
            reader.loopsEnd();
            reader.callsEnd();
        }
        return found;
    }

    private static boolean isNumberOrBoolean(TypeMirror type) {
        return type.getKind().isPrimitive() && type.getKind() != TypeKind.FLOAT && type.getKind() != TypeKind.DOUBLE;
    }

    private static boolean isArray(TypeMirror type) {
        return type != null && type.getKind() == TypeKind.ARRAY;
    }

    private static boolean isAllowed(TypeMirror type) {
        return isNumberOrBoolean(type) || isArray(type) && isNumberOrBoolean(((ArrayType) type).getComponentType());
    }

    /** A for loop, with what must stand still for its end to be seen, and what its body does. */
    private static final class Loop {
        final Tree tree;
        final Set<Element> still = new HashSet<>();
        final Set<Element> written = new HashSet<>();
        final Set<Element> called = new HashSet<>();

        Loop(Tree tree) {
            this.tree = tree;
        }
    }

    private static final class Reader extends TreePathScanner<Void, Void> {
        private final Trees trees;
        private final CompilationUnitTree unit;
        private final List<String> found;
        private final List<Loop> loops = new ArrayList<>();
        private final List<Loop> around = new ArrayList<>();
        private final Map<Element, Set<Element>> written = new HashMap<>();
        private final Map<Element, Set<Element>> called = new HashMap<>();
        private final Map<Element, Tree> methods = new HashMap<>();
        private Element owner = null;
        private MethodTree within = null;

        Reader(Trees trees, CompilationUnitTree unit, List<String> found) {
            this.trees = trees;
            this.unit = unit;
            this.found = found;
        }

        private long line(Tree tree) {
            return unit.getLineMap().getLineNumber(trees.getSourcePositions().getStartPosition(unit, tree));
        }

        private void fault(int rule, Tree tree) {
            String text = tree.toString().strip();
            found.add("rule " + rule + ", line " + line(tree) + ": " + text.lines().findFirst().orElse(""));
        }

        private TreePath path(Tree tree) {
            return TreePath.getPath(unit, tree);
        }

        private Element element(Tree tree) {
            return trees.getElement(path(tree));
        }

        private TypeMirror type(Tree tree) {
            return trees.getTypeMirror(path(tree));
        }

        /** The value of a literal or of a named constant; null for all else. */
        private Object constant(Tree tree) {
            if (tree instanceof LiteralTree literal) {
                return literal.getValue();
            }
            return tree instanceof IdentifierTree && element(tree) instanceof VariableElement named ? named.getConstantValue() : null;
        }

        @Override
        public Void visitCompilationUnit(CompilationUnitTree tree, Void nothing) {
            if (tree.getPackage() != null || tree.getTypeDecls().size() != 1) {
                fault(1, tree);
            }
            tree.getImports().forEach(line -> fault(3, line));
            return super.visitCompilationUnit(tree, nothing);
        }

        // Rules 1, 5 and 10: the class and its members.

        @Override
        public Void visitClass(ClassTree tree, Void nothing) {
            if (!(getCurrentPath().getParentPath().getLeaf() instanceof CompilationUnitTree)) {
                fault(1, tree);
                return null;
            }
            owner = trees.getElement(getCurrentPath());
            boolean plain = tree.getKind() == Tree.Kind.CLASS && tree.getSimpleName().contentEquals("SumCheck")
                && tree.getModifiers().getFlags().equals(Set.of(Modifier.PUBLIC, Modifier.FINAL))
                && tree.getExtendsClause() == null && tree.getImplementsClause().isEmpty() && tree.getTypeParameters().isEmpty();
            if (!plain) {
                fault(1, tree);
            }
            members(tree);
            return super.visitClass(tree, nothing);
        }

        private void members(ClassTree tree) {
            Set<String> publicNames = new HashSet<>();
            int fields = 0;
            for (Tree member : tree.getMembers()) {
                if (member instanceof BlockTree block) {
                    if (block.isStatic()) {
                        fault(5, member);
                    }
                    continue;
                }
                Set<Modifier> flags = element(member).getModifiers();
                if (!flags.contains(Modifier.PUBLIC) && !flags.contains(Modifier.PRIVATE)) {
                    fault(1, member);
                }
                if (member instanceof MethodTree method && flags.contains(Modifier.PUBLIC)) {
                    publicNames.add(method.getName().toString());
                }
                if (member instanceof VariableTree && !flags.contains(Modifier.STATIC)) {
                    fields++;
                }
            }
            if (fields > MOST_FIELDS) {
                fault(10, tree);
            }
            for (Tree member : tree.getMembers()) {
                boolean named = member instanceof MethodTree method && publicNames.contains(method.getName().toString());
                boolean constructor = member instanceof MethodTree method && method.getReturnType() == null;
                if (named && !constructor && element(member).getModifiers().contains(Modifier.PRIVATE)) {
                    fault(1, member);
                }
            }
        }

        @Override
        public Void visitMethod(MethodTree tree, Void nothing) {
            Element method = trees.getElement(getCurrentPath());
            methods.put(method, tree);
            within = tree;
            if (tree.getReturnType() != null) {
                answer(tree, type(tree.getReturnType()));
            }
            if (!tree.getThrows().isEmpty() || method.getModifiers().contains(Modifier.SYNCHRONIZED)) {
                fault(6, tree);
            }
            long lastLine = unit.getLineMap().getLineNumber(trees.getSourcePositions().getEndPosition(unit, tree));
            if (tree.getParameters().size() > MOST_PARAMETERS || lastLine - line(tree) + 1 > MOST_LINES) {
                fault(10, tree);
            }
            super.visitMethod(tree, nothing);
            within = null;
            return null;
        }

        private void answer(MethodTree tree, TypeMirror type) {
            if (isArray(type)) {
                fault(4, tree);
            } else if (type.getKind() != TypeKind.VOID && !isAllowed(type)) {
                fault(2, tree);
            }
        }

        @Override
        public Void visitVariable(VariableTree tree, Void nothing) {
            VariableElement variable = (VariableElement) trees.getElement(getCurrentPath());
            TypeMirror type = variable.asType();
            if (!isAllowed(type)) {
                fault(2, tree);
            }
            boolean number = type.getKind() == TypeKind.INT || type.getKind() == TypeKind.LONG;
            if (variable.getModifiers().contains(Modifier.STATIC) && !(number && variable.getConstantValue() != null)) {
                fault(5, tree);
            }
            return super.visitVariable(tree, nothing);
        }

        // Rules 2 and 3: types, and names from outside.

        @Override
        public Void visitLiteral(LiteralTree tree, Void nothing) {
            switch (tree.getKind()) {
                case STRING_LITERAL, FLOAT_LITERAL, DOUBLE_LITERAL -> fault(2, tree);
                case NULL_LITERAL -> fault(4, tree);
                default -> { }
            }
            return null;
        }

        @Override
        public Void visitPrimitiveType(PrimitiveTypeTree tree, Void nothing) {
            if (tree.getPrimitiveTypeKind() == TypeKind.FLOAT || tree.getPrimitiveTypeKind() == TypeKind.DOUBLE) {
                fault(2, tree);
            }
            return null;
        }

        private void name(Tree tree) {
            Element named = trees.getElement(getCurrentPath());
            boolean type = named != null && (named.getKind().isClass() || named.getKind().isInterface());
            if (type && !named.equals(owner)) {
                fault(3, tree);
            }
        }

        @Override
        public Void visitIdentifier(IdentifierTree tree, Void nothing) {
            name(tree);
            return null;
        }

        @Override
        public Void visitMemberSelect(MemberSelectTree tree, Void nothing) {
            name(tree);
            return super.visitMemberSelect(tree, nothing);
        }

        // Rules 3, 4, 8 and 10: calls.

        @Override
        public Void visitMethodInvocation(MethodInvocationTree tree, Void nothing) {
            // The compiler itself puts this call into a constructor's tree.
            if (tree.getMethodSelect().toString().equals("super")) {
                return null;
            }
            Element callee = element(tree.getMethodSelect());
            if (!callee.getEnclosingElement().equals(owner)) {
                fault(3, tree);
            }
            boolean constructing = within == null || within.getReturnType() == null;
            for (ExpressionTree argument : tree.getArguments()) {
                if (holdsCall(argument)) {
                    fault(10, tree);
                }
                if (constructing && isArray(type(argument))) {
                    fault(4, tree);
                }
            }
            note(called, callee);
            around.forEach(loop -> loop.called.add(callee));
            return super.visitMethodInvocation(tree, nothing);
        }

        private static boolean holdsCall(Tree tree) {
            boolean[] holds = {false};
            new TreeScanner<Void, Void>() {
                @Override
                public Void visitMethodInvocation(MethodInvocationTree call, Void nothing) {
                    holds[0] = true;
                    return null;
                }
            }.scan(tree, null);
            return holds[0];
        }

        private void note(Map<Element, Set<Element>> what, Element element) {
            if (within != null) {
                what.computeIfAbsent(element(within), method -> new HashSet<>()).add(element);
            }
        }

        // Rule 4: arrays and objects.

        @Override
        public Void visitNewArray(NewArrayTree tree, Void nothing) {
            boolean field = within == null && getCurrentPath().getParentPath().getLeaf() instanceof VariableTree;
            boolean sized = tree.getInitializers() == null && tree.getDimensions().size() == 1
                && constant(tree.getDimensions().get(0)) instanceof Integer length && length >= 1;
            if (!field || !sized) {
                fault(4, tree);
            }
            return super.visitNewArray(tree, nothing);
        }

        @Override
        public Void visitNewClass(NewClassTree tree, Void nothing) {
            fault(4, tree);
            return super.visitNewClass(tree, nothing);
        }

        @Override
        public Void visitAssignment(AssignmentTree tree, Void nothing) {
            if (isArray(type(tree.getVariable()))) {
                fault(4, tree);
            }
            write(tree.getVariable());
            return super.visitAssignment(tree, nothing);
        }

        private void write(ExpressionTree variable) {
            if (variable instanceof IdentifierTree || variable instanceof MemberSelectTree) {
                Element target = element(variable);
                note(written, target);
                around.forEach(loop -> loop.written.add(target));
            }
        }

        // Rule 6: what is left out.

        @Override
        public Void visitThrow(ThrowTree tree, Void nothing) {
            fault(6, tree);
            return super.visitThrow(tree, nothing);
        }

        @Override
        public Void visitTry(TryTree tree, Void nothing) {
            fault(6, tree);
            return super.visitTry(tree, nothing);
        }

        @Override
        public Void visitSynchronized(SynchronizedTree tree, Void nothing) {
            fault(6, tree);
            return super.visitSynchronized(tree, nothing);
        }

        @Override
        public Void visitAssert(AssertTree tree, Void nothing) {
            fault(6, tree);
            return super.visitAssert(tree, nothing);
        }

        @Override
        public Void visitInstanceOf(InstanceOfTree tree, Void nothing) {
            fault(6, tree);
            return super.visitInstanceOf(tree, nothing);
        }

        @Override
        public Void visitLambdaExpression(LambdaExpressionTree tree, Void nothing) {
            fault(6, tree);
            return super.visitLambdaExpression(tree, nothing);
        }

        @Override
        public Void visitMemberReference(MemberReferenceTree tree, Void nothing) {
            fault(6, tree);
            return super.visitMemberReference(tree, nothing);
        }

        @Override
        public Void visitTypeCast(TypeCastTree tree, Void nothing) {
            if (!(tree.getType() instanceof PrimitiveTypeTree)) {
                fault(6, tree);
            }
            return super.visitTypeCast(tree, nothing);
        }

        // Rule 7: divisors. (Comparing arrays is rule 4.)

        private void divisor(Tree tree, ExpressionTree divisor) {
            if (!(constant(divisor) instanceof Number number) || number.longValue() == 0) {
                fault(7, tree);
            }
        }

        @Override
        public Void visitBinary(BinaryTree tree, Void nothing) {
            switch (tree.getKind()) {
                case DIVIDE, REMAINDER -> divisor(tree, tree.getRightOperand());
                case EQUAL_TO, NOT_EQUAL_TO -> {
                    if (isArray(type(tree.getLeftOperand())) || isArray(type(tree.getRightOperand()))) {
                        fault(4, tree);
                    }
                }
                default -> { }
            }
            return super.visitBinary(tree, nothing);
        }

        @Override
        public Void visitCompoundAssignment(CompoundAssignmentTree tree, Void nothing) {
            if (tree.getKind() == Tree.Kind.DIVIDE_ASSIGNMENT || tree.getKind() == Tree.Kind.REMAINDER_ASSIGNMENT) {
                divisor(tree, tree.getExpression());
            }
            write(tree.getVariable());
            return super.visitCompoundAssignment(tree, nothing);
        }

        @Override
        public Void visitUnary(UnaryTree tree, Void nothing) {
            switch (tree.getKind()) {
                case POSTFIX_INCREMENT, POSTFIX_DECREMENT, PREFIX_INCREMENT, PREFIX_DECREMENT -> write(tree.getExpression());
                default -> { }
            }
            return super.visitUnary(tree, nothing);
        }

        // Rule 8: loops and recursion. Rule 10: the depth of calls.

        @Override
        public Void visitWhileLoop(WhileLoopTree tree, Void nothing) {
            fault(8, tree);
            return super.visitWhileLoop(tree, nothing);
        }

        @Override
        public Void visitDoWhileLoop(DoWhileLoopTree tree, Void nothing) {
            fault(8, tree);
            return super.visitDoWhileLoop(tree, nothing);
        }

        @Override
        public Void visitForLoop(ForLoopTree tree, Void nothing) {
            Loop loop = new Loop(tree);
            if (!counts(tree, loop)) {
                fault(8, tree);
            }
            loops.add(loop);
            scan(tree.getInitializer(), nothing);
            scan(tree.getUpdate(), nothing);
            around.add(loop);
            scan(tree.getCondition(), nothing);
            scan(tree.getStatement(), nothing);
            around.remove(loop);
            return null;
        }

        /** Whether the head is for (int i = ..; i < bound; i++), the bound being made of names and numbers. */
        private boolean counts(ForLoopTree tree, Loop loop) {
            if (tree.getInitializer().size() != 1 || !(tree.getInitializer().get(0) instanceof VariableTree declared)) {
                return false;
            }
            Element counter = element(declared);
            if (!(tree.getCondition() instanceof BinaryTree test) || test.getKind() != Tree.Kind.LESS_THAN
                    || !counter.equals(element(test.getLeftOperand()))) {
                return false;
            }
            if (tree.getUpdate().size() != 1 || !(tree.getUpdate().get(0).getExpression() instanceof UnaryTree step)
                    || step.getKind() != Tree.Kind.POSTFIX_INCREMENT || !counter.equals(element(step.getExpression()))) {
                return false;
            }
            boolean plain = boundIsPlain(test.getRightOperand(), loop) && !loop.still.contains(counter);
            loop.still.add(counter);
            return plain;
        }

        private boolean boundIsPlain(ExpressionTree tree, Loop loop) {
            if (tree instanceof IdentifierTree) {
                loop.still.add(element(tree));
                return true;
            }
            if (tree instanceof ParenthesizedTree inside) {
                return boundIsPlain(inside.getExpression(), loop);
            }
            if (tree instanceof BinaryTree two) {
                return boundIsPlain(two.getLeftOperand(), loop) && boundIsPlain(two.getRightOperand(), loop);
            }
            return tree instanceof LiteralTree;
        }

        void loopsEnd() {
            for (Loop loop : loops) {
                Set<Element> touched = new HashSet<>(loop.written);
                reached(loop.called).forEach(method -> touched.addAll(written.getOrDefault(method, Set.of())));
                touched.retainAll(loop.still);
                if (!touched.isEmpty()) {
                    fault(8, loop.tree);
                }
            }
        }

        private Set<Element> reached(Set<Element> from) {
            Set<Element> all = new HashSet<>();
            List<Element> open = new ArrayList<>(from);
            while (!open.isEmpty()) {
                Element method = open.remove(open.size() - 1);
                if (all.add(method)) {
                    open.addAll(called.getOrDefault(method, Set.of()));
                }
            }
            return all;
        }

        void callsEnd() {
            for (Element method : methods.keySet()) {
                if (reached(called.getOrDefault(method, Set.of())).contains(method)) {
                    fault(8, methods.get(method));
                    return;
                }
            }
            for (Element method : methods.keySet()) {
                if (depth(method) > DEEPEST) {
                    fault(10, methods.get(method));
                }
            }
        }

        private int depth(Element method) {
            int below = 0;
            for (Element callee : called.getOrDefault(method, Set.of())) {
                below = Math.max(below, depth(callee));
            }
            return below + 1;
        }
    }
}
