import com.sun.source.tree.*;
import com.sun.source.util.JavacTask;
import com.sun.source.util.TreeScanner;
import com.sun.source.util.Trees;
import java.io.IOException;
import java.net.URI;
import java.nio.file.Files;
import java.nio.file.Path;
import java.util.ArrayList;
import java.util.HashMap;
import java.util.HashSet;
import java.util.List;
import java.util.Map;
import java.util.Set;
import java.util.TreeMap;
import java.util.TreeSet;
import javax.lang.model.element.Modifier;
import javax.lang.model.type.TypeKind;
import javax.tools.DiagnosticCollector;
import javax.tools.JavaFileObject;
import javax.tools.SimpleJavaFileObject;
import javax.tools.ToolProvider;

// The text of the class keeps to ../shared/LANGUAGE.md, as far as its text can show it. In places
// the test asks for more than the rules do, because the plainer form is easier to see: arrays are
// made in the fields' initialisers alone, no local variable names an array, a constant is given as
// a number or another constant, each loop is a for that counts up, and nothing is divided by
// anything but a constant. Two things it does not show: that an index is looked at before it is
// used (rule 7), which is left to the tests that call the class; and that no method called in a
// loop changes a field that bounds the loop (rule 8), which is left to reading.
public final class LanguageTest {
    private static final Path PROGRAM = Path.of("src/main/java/DifferenceDesk.java");
    private static final int MOST_LINES = 60, MOST_PARAMETERS = 7, MOST_DEPTH = 6, MOST_FIELDS = 40;

    private static int wrong = 0;

    public static void main(String[] args) throws IOException {
        for (String breach : breachesOf(Files.readString(PROGRAM))) {
            wrong++;
            System.out.println(PROGRAM + ": " + breach);
        }
        checkThatBreachesAreFound();
        System.out.println(wrong == 0 ? "the rules are kept" : wrong + " faults");
        if (wrong != 0) {
            System.exit(1);
        }
    }

    // A check that finds nothing shows little unless it finds what is wrong.
    private static void checkThatBreachesAreFound() throws IOException {
        finds("", "public final class DifferenceDesk { " + sound() + " }");
        finds("1", "package desk; public final class DifferenceDesk { }");
        finds("1", "public final class DifferenceDesk { } class Other { }");
        finds("1", "final class DifferenceDesk { }");
        finds("1", "public class DifferenceDesk { }");
        finds("1", "public final class Desk { }");
        finds("1", "public final record DifferenceDesk() { }");
        finds("3", "import java.util.List; public final class DifferenceDesk { }");
        finds("3", "public final class DifferenceDesk extends Thread { }");
        finds("3", "public final class DifferenceDesk implements Runnable { }");
        findsInMember("1", "private static final class Inner { }");
        findsInMember("1", "private enum Kind { ONE }");
        findsInMember("1", "private record Pair(int a, int b) { }");
        findsInMember("1", "public int same() { return 1; } private int same(int a) { return a; }");
        findsInMember("1", "int shown = 0;");
        findsInMember("1", "protected int shown() { return 0; }");
        findsInMember("2", "private String name;");
        findsInMember("2", "private double half;");
        findsInMember("2", "private float half() { return 0; }");
        findsInMember("2", "private void f(Object o) { }");
        findsInMember("2", "private final int[][] square = new int[2];");
        findsInMember("2", "private boolean f() { return \"a\" == \"b\"; }");
        findsInMember("2", "private int f() { return (int) 1.5; }");
        findsInMember("2", "private int f() { return (int) 1.5f; }");
        findsInMember("3", "@Deprecated private int old() { return 0; }");
        findsInMember("3", "private int f(int a) { return Math.abs(a); }");
        findsInMember("3", "private int f() { return Integer.MAX_VALUE; }");
        findsInMember("3", "private int f() { return hashCode(); }");
        findsInMember("3", "private int f() { return this.hashCode(); }");
        findsInMember("4", "private final int[] none = new int[0];");
        findsInMember("4", "private final int[] listed = {1, 2};");
        findsInMember("4", "private final int[] grown = new int[one];");
        findsInMember("4", "private int[] open = new int[3];");
        findsInMember("4", "private int[] f() { return row; }");
        findsInMember("4", "private void f() { int[] local = row; }");
        findsInMember("4", "private void f() { switch (one) { case 1: int[] local = row; } }");
        findsInMember("4", "private int f() { return new int[3].length; }");
        findsInMember("4", "private void f() { new DifferenceDesk(); }");
        findsInMember("4", "private boolean f() { return row == null; }");
        findsInMember("4", "private boolean f(int[] other) { return row != other; }");
        findsInMember("4", "private void f(int[] other) { other = row; }");
        findsInMember("5", "private static int count = 0;");
        findsInMember("5", "private static final boolean YES = true;");
        findsInMember("5", "private static final int LATER = compute();"
            + " private static int compute() { return 1; }");
        findsInMember("5", "static { }");
        findsInMember("6", "private void f() { throw this; }");
        findsInMember("6", "private void f() { try { one = 2; } finally { one = 1; } }");
        findsInMember("6", "private void f() { synchronized (this) { one = 1; } }");
        findsInMember("6", "private synchronized void f() { }");
        findsInMember("6", "private void f() { assert one == 1; }");
        findsInMember("6", "private boolean f() { return this instanceof DifferenceDesk; }");
        findsInMember("6", "private void f() { g(() -> 1); } private void g(int a) { }");
        findsInMember("6", "private void f() { g(this::f); } private void g(int a) { }");
        findsInMember("6", "private int f(int[] a) { return ((int[]) a)[0]; }");
        findsInMember("6", "private void f() throws Exception { }");
        findsInMember("7", "private int f(int a) { return 1 / a; }");
        findsInMember("7", "private int f(int a) { return 1 % (a + 1); }");
        findsInMember("7", "private void f(int a) { one /= a; }");
        findsInMember("7", "private int f() { return 1 % ZERO; }");
        findsInMember("8", "private void f() { f(); }");
        findsInMember("8", "private void f() { g(); } private void g() { this.f(); }");
        findsInMember("8", "private void f() { while (one < 3) { one++; } }");
        findsInMember("8", "private void f() { do { one++; } while (one < 3); }");
        findsInMember("8", "private void f() { for (;;) { } }");
        findsInMember("8", "private void f() { for (int i = 0; i < 3; i--) { } }");
        findsInMember("8", "private void f() { for (int i = 0; i <= 3; i++) { } }");
        findsInMember("8", "private void f() { for (int i = 0; one < 3; i++) { } }");
        findsInMember("8", "private void f() { for (int i = 0; i < 3; i++) { i = 0; } }");
        findsInMember("8", "private void f() { for (int i = 0; i < 3; i++) { i--; } }");
        findsInMember("8", "private void f() { for (int i = 0; i < one; i++) { one++; } }");
        findsInMember("8", "private void f() { for (int i = 0; i < g(); i++) { } }"
            + " private int g() { return 3; }");
        findsInMember("10", "private int f(int a) { return a; }"
            + " private int g() { return f(1 + f(1)); }");
        findsInMember("10", "private void f(int a, int b, int c, int d, int e, int g, int h, int i) { }");
        findsInMember("10", "private void f() {\n" + "one = 1;\n".repeat(MOST_LINES) + "}");
        findsInMember("10", chainOfCalls(MOST_DEPTH + 1));
        findsInMember("", chainOfCalls(MOST_DEPTH));
        findsInMember("10", manyFields(MOST_FIELDS));
    }

    private static String sound() {
        return "public static final int THREE = 3; private static final int ZERO = 0, BELOW = -THREE;"
            + " private final int[] row = new int[THREE]; private int one = 1;"
            + " public DifferenceDesk() { }"
            + " public int sum(int a) { one = row.length / THREE; return sumOf(row) + (int) 2L; }"
            + " private int sumOf(int[] of) { int sum = 0;"
            + " for (int i = 0; i < THREE; i++) { sum += of[i] % 2; } return sum + this.one; }";
    }

    private static String chainOfCalls(int depth) {
        StringBuilder chain = new StringBuilder("private void last() { }");
        String called = "last";
        for (int n = 1; n < depth; n++) {
            String name = "caller" + n;
            chain.append(" private void " + name + "() { " + called + "(); }");
            called = name;
        }
        return chain.toString();
    }

    private static String manyFields(int count) {
        StringBuilder fields = new StringBuilder();
        for (int n = 0; n < count; n++) {
            fields.append(" private int field" + n + ";");
        }
        return fields.toString();
    }

    private static void findsInMember(String rule, String member) throws IOException {
        finds(rule, "public final class DifferenceDesk { " + sound() + "\n" + member + " }");
    }

    private static void finds(String rule, String source) throws IOException {
        Set<String> found = new TreeSet<>();
        for (String breach : breachesOf(source)) {
            found.add(breach.replaceAll("^rule (\\d+):.*", "$1"));
        }
        if (!found.equals(rule.isEmpty() ? Set.of() : Set.of(rule))) {
            wrong++;
            System.out.println("found " + found + ", due is [" + rule + "] in " + source);
        }
    }

    private static List<String> breachesOf(String source) throws IOException {
        JavaFileObject file = new SimpleJavaFileObject(
                URI.create("string:///DifferenceDesk.java"), JavaFileObject.Kind.SOURCE) {
            @Override
            public CharSequence getCharContent(boolean ignoreEncodingErrors) {
                return source;
            }
        };
        DiagnosticCollector<JavaFileObject> errors = new DiagnosticCollector<>();
        JavacTask task = (JavacTask) ToolProvider.getSystemJavaCompiler()
            .getTask(null, null, errors, List.of("--release", "17"), null, List.of(file));
        CompilationUnitTree unit = task.parse().iterator().next();
        Rules rules = new Rules(unit, Trees.instance(task));
        errors.getDiagnostics().forEach(error -> rules.breaches.add("not Java 17: " + error));
        rules.scan(unit, null);
        rules.checkCalls();
        return rules.breaches;
    }

    /** Goes through the class and gathers what breaks a rule. */
    private static final class Rules extends TreeScanner<Void, Void> {
        final List<String> breaches = new ArrayList<>();

        private final CompilationUnitTree unit;
        private final Trees trees;
        private final Map<String, Long> constants = new HashMap<>();
        private final Set<String> arrays = new HashSet<>();
        private final Set<Tree> arraysOfFields = new HashSet<>();
        private final Set<String> publicMethods = new HashSet<>();
        private final Set<String> privateMethods = new HashSet<>();
        private final Map<String, Set<String>> calls = new TreeMap<>();
        private boolean isInClass = false;
        private String method = null;

        Rules(CompilationUnitTree unit, Trees trees) {
            this.unit = unit;
            this.trees = trees;
        }

        private long lineAt(long position) {
            return unit.getLineMap().getLineNumber(position);
        }

        private void demand(boolean holds, int rule, String what, Tree where) {
            if (!holds) {
                long start = trees.getSourcePositions().getStartPosition(unit, where);
                String line = start < 0 ? "?" : String.valueOf(lineAt(start));
                breaches.add("rule " + rule + ": " + what + ", line " + line);
            }
        }

        @Override
        public Void visitCompilationUnit(CompilationUnitTree tree, Void none) {
            demand(tree.getPackage() == null, 1, "a package line", tree);
            demand(tree.getImports().isEmpty(), 3, "an import", tree);
            demand(tree.getTypeDecls().size() == 1, 1, "not one class", tree);
            return scan(tree.getTypeDecls().get(0), none);
        }

        @Override
        public Void visitClass(ClassTree tree, Void none) {
            if (isInClass) {
                demand(false, 1, "a nested class", tree);
                return null;
            }
            isInClass = true;
            Set<Modifier> flags = tree.getModifiers().getFlags();
            demand(flags.equals(Set.of(Modifier.PUBLIC, Modifier.FINAL)), 1, "not public final", tree);
            demand(tree.getKind() == Tree.Kind.CLASS, 1, "no class", tree);
            demand(tree.getSimpleName().contentEquals("DifferenceDesk"), 1, "another name", tree);
            demand(tree.getExtendsClause() == null && tree.getImplementsClause().isEmpty(), 3,
                "another class above it", tree);
            int fields = 0;
            for (Tree member : tree.getMembers()) {
                if (member instanceof VariableTree field) {
                    noteField(field);
                    fields += isStatic(field.getModifiers()) ? 0 : 1;
                } else if (member instanceof MethodTree made) {
                    boolean isPublic = made.getModifiers().getFlags().contains(Modifier.PUBLIC);
                    (isPublic ? publicMethods : privateMethods).add(made.getName().toString());
                    demandPublicOrPrivate(made.getModifiers());
                } else if (member instanceof BlockTree block) {
                    demand(!block.isStatic(), 5, "a static initialiser", block);
                }
            }
            demand(fields <= MOST_FIELDS, 10, fields + " fields", tree);
            for (String name : privateMethods) {
                demand(!publicMethods.contains(name), 1, name + " is private and public", tree);
            }
            return scan(tree.getMembers(), none);
        }

        private void noteField(VariableTree field) {
            String name = field.getName().toString();
            boolean isFinal = field.getModifiers().getFlags().contains(Modifier.FINAL);
            demandPublicOrPrivate(field.getModifiers());
            if (isStatic(field.getModifiers())) {
                TypeKind kind = kindOf(field.getType());
                boolean isNumber = kind == TypeKind.INT || kind == TypeKind.LONG;
                Long value = valueOf(field.getInitializer());
                demand(isFinal && isNumber && value != null, 5, name + " is no constant", field);
                constants.put(name, value);
            } else if (field.getType() instanceof ArrayTypeTree) {
                demand(isFinal, 4, name + " may come to be another array", field);
                arrays.add(name);
                arraysOfFields.add(field.getInitializer());
            }
        }

        private void demandPublicOrPrivate(ModifiersTree modifiers) {
            Set<Modifier> flags = modifiers.getFlags();
            demand(flags.contains(Modifier.PUBLIC) || flags.contains(Modifier.PRIVATE), 1,
                "neither public nor private", modifiers);
        }

        private static boolean isStatic(ModifiersTree modifiers) {
            return modifiers.getFlags().contains(Modifier.STATIC);
        }

        private static TypeKind kindOf(Tree type) {
            return type instanceof PrimitiveTypeTree simple ? simple.getPrimitiveTypeKind() : null;
        }

        /** The value of a number, of a constant, or of one of these with a minus; else null. */
        private Long valueOf(Tree tree) {
            if (tree instanceof LiteralTree literal && literal.getValue() instanceof Number number) {
                return number.longValue();
            }
            if (tree instanceof IdentifierTree name) {
                return constants.get(name.getName().toString());
            }
            if (tree instanceof UnaryTree unary && unary.getKind() == Tree.Kind.UNARY_MINUS) {
                Long value = valueOf(unary.getExpression());
                return value == null ? null : -value;
            }
            return null;
        }

        private void demandType(Tree type, Tree where) {
            Tree element = type instanceof ArrayTypeTree array ? array.getType() : type;
            TypeKind kind = kindOf(element);
            boolean isWhole = kind != null && kind != TypeKind.FLOAT && kind != TypeKind.DOUBLE;
            demand(isWhole, 2, "the type " + type, where);
        }

        @Override
        public Void visitVariable(VariableTree tree, Void none) {
            demandType(tree.getType(), tree);
            // Parameters do not come here: visitMethod looks at them.
            boolean isLocalArray = method != null && tree.getType() instanceof ArrayTypeTree;
            demand(!isLocalArray, 4, "a local variable names an array", tree);
            return super.visitVariable(tree, none);
        }

        @Override
        public Void visitMethod(MethodTree tree, Void none) {
            method = tree.getName().toString();
            calls.putIfAbsent(method, new TreeSet<>());
            if (tree.getReturnType() != null) {
                boolean isArray = tree.getReturnType() instanceof ArrayTypeTree;
                demand(!isArray, 4, method + " answers an array", tree);
                demandType(tree.getReturnType(), tree);
            }
            demand(tree.getThrows().isEmpty(), 6, "throws", tree);
            boolean isLocked = tree.getModifiers().getFlags().contains(Modifier.SYNCHRONIZED);
            demand(!isLocked, 6, "synchronized", tree);
            demand(tree.getParameters().size() <= MOST_PARAMETERS, 10, "many parameters", tree);
            demand(linesOf(tree) <= MOST_LINES, 10, method + " is long", tree);
            for (VariableTree parameter : tree.getParameters()) {
                if (parameter.getType() instanceof ArrayTypeTree) {
                    arrays.add(parameter.getName().toString());
                }
            }
            scan(tree.getModifiers(), none);
            for (VariableTree parameter : tree.getParameters()) {
                demandType(parameter.getType(), parameter);
            }
            scan(tree.getBody(), none);
            method = null;
            return null;
        }

        private long linesOf(Tree tree) {
            long start = trees.getSourcePositions().getStartPosition(unit, tree);
            long end = trees.getSourcePositions().getEndPosition(unit, tree);
            return lineAt(end) - lineAt(start) + 1;
        }

        @Override
        public Void visitNewArray(NewArrayTree tree, Void none) {
            boolean isOfField = arraysOfFields.contains(tree);
            demand(isOfField, 4, "an array made outside a field's initialiser", tree);
            demand(tree.getInitializers() == null, 4, "an array without a length", tree);
            for (ExpressionTree length : tree.getDimensions()) {
                Long value = valueOf(length);
                demand(value != null && value >= 1, 4, "the length " + length, tree);
            }
            return super.visitNewArray(tree, none);
        }

        @Override
        public Void visitNewClass(NewClassTree tree, Void none) {
            demand(false, 4, "an object is made", tree);
            return null;
        }

        @Override
        public Void visitLiteral(LiteralTree tree, Void none) {
            Tree.Kind kind = tree.getKind();
            demand(kind != Tree.Kind.NULL_LITERAL, 4, "null", tree);
            boolean isWhole = kind != Tree.Kind.STRING_LITERAL && kind != Tree.Kind.FLOAT_LITERAL
                && kind != Tree.Kind.DOUBLE_LITERAL;
            demand(isWhole, 2, "the literal " + tree, tree);
            return null;
        }

        @Override
        public Void visitAnnotation(AnnotationTree tree, Void none) {
            demand(false, 3, "an annotation", tree);
            return null;
        }

        @Override
        public Void visitMemberSelect(MemberSelectTree tree, Void none) {
            String owner = tree.getExpression().toString();
            boolean isLength = arrays.contains(owner) && tree.getIdentifier().contentEquals("length");
            boolean isOwn = owner.equals("this") || owner.equals("DifferenceDesk");
            // What stands on other expressions is looked at there.
            boolean isName = tree.getExpression() instanceof IdentifierTree;
            demand(!isName || isLength || isOwn, 3, "the name " + tree, tree);
            return super.visitMemberSelect(tree, none);
        }

        @Override
        public Void visitMethodInvocation(MethodInvocationTree tree, Void none) {
            String called = tree.getMethodSelect().toString().replaceFirst("^this\\.", "");
            boolean isOwn = publicMethods.contains(called) || privateMethods.contains(called);
            boolean isElsewhere = tree.getMethodSelect() instanceof MemberSelectTree select
                && !select.getExpression().toString().equals("this");
            // A call on another name is told by that name.
            demand(isOwn || isElsewhere, 3, "the call of " + called, tree);
            if (isOwn && method != null) {
                calls.get(method).add(called);
            }
            for (ExpressionTree argument : tree.getArguments()) {
                demand(!hasCall(argument), 10, "a call inside the arguments of " + called, tree);
            }
            return super.visitMethodInvocation(tree, none);
        }

        private static boolean hasCall(Tree tree) {
            boolean[] found = {false};
            new TreeScanner<Void, Void>() {
                @Override
                public Void visitMethodInvocation(MethodInvocationTree call, Void none) {
                    found[0] = true;
                    return null;
                }
            }.scan(tree, null);
            return found[0];
        }

        @Override
        public Void visitAssignment(AssignmentTree tree, Void none) {
            demand(!arrays.contains(tree.getVariable().toString()), 4, "an array is assigned", tree);
            return super.visitAssignment(tree, none);
        }

        @Override
        public Void visitBinary(BinaryTree tree, Void none) {
            Tree.Kind kind = tree.getKind();
            if (kind == Tree.Kind.DIVIDE || kind == Tree.Kind.REMAINDER) {
                demandDivisor(tree.getRightOperand());
            }
            if (kind == Tree.Kind.EQUAL_TO || kind == Tree.Kind.NOT_EQUAL_TO) {
                boolean isOfNull = tree.getRightOperand().getKind() == Tree.Kind.NULL_LITERAL;
                boolean isOfArray = arrays.contains(tree.getLeftOperand().toString())
                    || arrays.contains(tree.getRightOperand().toString());
                demand(isOfNull || !isOfArray, 4, "an array is compared", tree);
            }
            return super.visitBinary(tree, none);
        }

        @Override
        public Void visitCompoundAssignment(CompoundAssignmentTree tree, Void none) {
            Tree.Kind kind = tree.getKind();
            if (kind == Tree.Kind.DIVIDE_ASSIGNMENT || kind == Tree.Kind.REMAINDER_ASSIGNMENT) {
                demandDivisor(tree.getExpression());
            }
            return super.visitCompoundAssignment(tree, none);
        }

        private void demandDivisor(ExpressionTree divisor) {
            Long value = valueOf(divisor);
            demand(value != null && value != 0, 7, "divided by " + divisor, divisor);
        }

        @Override
        public Void visitForLoop(ForLoopTree tree, Void none) {
            demand(countsUp(tree), 8, "a loop that does not count up to a bound", tree);
            return super.visitForLoop(tree, none);
        }

        private static boolean countsUp(ForLoopTree tree) {
            if (!(tree.getCondition() instanceof BinaryTree condition)
                    || condition.getKind() != Tree.Kind.LESS_THAN
                    || tree.getUpdate().size() != 1
                    || !(tree.getUpdate().get(0).getExpression() instanceof UnaryTree update)
                    || update.getKind() != Tree.Kind.POSTFIX_INCREMENT) {
                return false;
            }
            String counter = condition.getLeftOperand().toString();
            Set<String> fixed = namesIn(condition.getRightOperand());
            boolean boundCounts = fixed.contains(counter);
            fixed.add(counter);
            fixed.retainAll(namesChangedIn(tree.getStatement()));
            return update.getExpression().toString().equals(counter) && !boundCounts
                && fixed.isEmpty() && !hasCall(condition);
        }

        private static Set<String> namesIn(Tree tree) {
            Set<String> names = new HashSet<>();
            new TreeScanner<Void, Void>() {
                @Override
                public Void visitIdentifier(IdentifierTree name, Void none) {
                    names.add(name.getName().toString());
                    return null;
                }
            }.scan(tree, null);
            return names;
        }

        private static Set<String> namesChangedIn(Tree tree) {
            Set<String> names = new HashSet<>();
            new TreeScanner<Void, Void>() {
                @Override
                public Void visitAssignment(AssignmentTree change, Void none) {
                    names.add(change.getVariable().toString());
                    return super.visitAssignment(change, none);
                }

                @Override
                public Void visitCompoundAssignment(CompoundAssignmentTree change, Void none) {
                    names.add(change.getVariable().toString());
                    return super.visitCompoundAssignment(change, none);
                }

                @Override
                public Void visitUnary(UnaryTree unary, Void none) {
                    switch (unary.getKind()) {
                        case PREFIX_INCREMENT, PREFIX_DECREMENT, POSTFIX_INCREMENT, POSTFIX_DECREMENT ->
                            names.add(unary.getExpression().toString());
                        default -> { }
                    }
                    return super.visitUnary(unary, none);
                }
            }.scan(tree, null);
            return names;
        }

        @Override
        public Void visitWhileLoop(WhileLoopTree tree, Void none) {
            demand(false, 8, "a while loop", tree);
            return super.visitWhileLoop(tree, none);
        }

        @Override
        public Void visitDoWhileLoop(DoWhileLoopTree tree, Void none) {
            demand(false, 8, "a do loop", tree);
            return super.visitDoWhileLoop(tree, none);
        }

        @Override
        public Void visitThrow(ThrowTree tree, Void none) {
            demand(false, 6, "throw", tree);
            return super.visitThrow(tree, none);
        }

        @Override
        public Void visitTry(TryTree tree, Void none) {
            demand(false, 6, "try", tree);
            return super.visitTry(tree, none);
        }

        @Override
        public Void visitSynchronized(SynchronizedTree tree, Void none) {
            demand(false, 6, "synchronized", tree);
            return super.visitSynchronized(tree, none);
        }

        @Override
        public Void visitAssert(AssertTree tree, Void none) {
            demand(false, 6, "assert", tree);
            return super.visitAssert(tree, none);
        }

        @Override
        public Void visitInstanceOf(InstanceOfTree tree, Void none) {
            demand(false, 6, "instanceof", tree);
            return super.visitInstanceOf(tree, none);
        }

        @Override
        public Void visitLambdaExpression(LambdaExpressionTree tree, Void none) {
            demand(false, 6, "a lambda", tree);
            return super.visitLambdaExpression(tree, none);
        }

        @Override
        public Void visitMemberReference(MemberReferenceTree tree, Void none) {
            demand(false, 6, "a method reference", tree);
            return super.visitMemberReference(tree, none);
        }

        @Override
        public Void visitTypeCast(TypeCastTree tree, Void none) {
            demand(kindOf(tree.getType()) != null, 6, "a cast to " + tree.getType(), tree);
            return super.visitTypeCast(tree, none);
        }

        /** Relies on the scan having gathered all calls. */
        void checkCalls() {
            for (String name : calls.keySet()) {
                int depth = depthOf(name, new ArrayList<>());
                if (depth < 0) {
                    breaches.add("rule 8: " + name + " comes to a recursion");
                } else if (depth > MOST_DEPTH) {
                    breaches.add("rule 10: calls from " + name + " go " + depth + " deep");
                }
            }
        }

        /** How many methods stand in the longest chain of calls from here; -1 if one comes back. */
        private int depthOf(String name, List<String> above) {
            if (above.contains(name)) {
                return -1;
            }
            above.add(name);
            int deepest = 0;
            for (String called : calls.get(name)) {
                int depth = depthOf(called, above);
                if (depth < 0) {
                    return -1;
                }
                deepest = Math.max(deepest, depth);
            }
            above.remove(name);
            return deepest + 1;
        }
    }
}
