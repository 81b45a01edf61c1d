import com.sun.source.tree.ArrayAccessTree;
import com.sun.source.tree.ArrayTypeTree;
import com.sun.source.tree.AssignmentTree;
import com.sun.source.tree.BinaryTree;
import com.sun.source.tree.BlockTree;
import com.sun.source.tree.ClassTree;
import com.sun.source.tree.CompilationUnitTree;
import com.sun.source.tree.CompoundAssignmentTree;
import com.sun.source.tree.ExpressionStatementTree;
import com.sun.source.tree.ExpressionTree;
import com.sun.source.tree.ForLoopTree;
import com.sun.source.tree.IdentifierTree;
import com.sun.source.tree.LineMap;
import com.sun.source.tree.LiteralTree;
import com.sun.source.tree.MethodInvocationTree;
import com.sun.source.tree.MethodTree;
import com.sun.source.tree.NewArrayTree;
import com.sun.source.tree.ParenthesizedTree;
import com.sun.source.tree.PrimitiveTypeTree;
import com.sun.source.tree.StatementTree;
import com.sun.source.tree.Tree;
import com.sun.source.tree.Tree.Kind;
import com.sun.source.tree.UnaryTree;
import com.sun.source.tree.VariableTree;
import com.sun.source.util.JavacTask;
import com.sun.source.util.SourcePositions;
import com.sun.source.util.TreeScanner;
import com.sun.source.util.Trees;
import java.io.IOException;
import java.net.URI;
import java.nio.file.Files;
import java.nio.file.Path;
import java.util.EnumSet;
import java.util.HashMap;
import java.util.HashSet;
import java.util.List;
import java.util.Map;
import java.util.Set;
import java.util.TreeSet;
import javax.lang.model.element.Modifier;
import javax.lang.model.type.TypeKind;
import javax.tools.JavaCompiler;
import javax.tools.JavaFileObject;
import javax.tools.SimpleJavaFileObject;
import javax.tools.ToolProvider;

/**
 * The rules of LANGUAGE.md that the source of BestTree shows by itself. Only the forms that the class
 * uses today are let through, so some that the rules allow (while, switch, casts, array parameters)
 * are found too: whoever needs one adds it here together with the rule's own check. Rule 7 is the
 * other tests' matter: they fail if a call throws or doesn't end.
 */
public final class LanguageTest {
    private static final Set<Kind> FORMS = EnumSet.of(
            Kind.COMPILATION_UNIT, Kind.CLASS, Kind.METHOD, Kind.VARIABLE, Kind.MODIFIERS, Kind.BLOCK,
            Kind.PRIMITIVE_TYPE, Kind.ARRAY_TYPE, Kind.NEW_ARRAY, Kind.ARRAY_ACCESS, Kind.IDENTIFIER,
            Kind.INT_LITERAL, Kind.LONG_LITERAL, Kind.BOOLEAN_LITERAL, Kind.METHOD_INVOCATION,
            Kind.IF, Kind.FOR_LOOP, Kind.RETURN, Kind.EXPRESSION_STATEMENT, Kind.PARENTHESIZED,
            Kind.CONDITIONAL_EXPRESSION, Kind.ASSIGNMENT, Kind.PLUS_ASSIGNMENT, Kind.POSTFIX_INCREMENT,
            Kind.POSTFIX_DECREMENT, Kind.PLUS, Kind.MINUS, Kind.MULTIPLY, Kind.REMAINDER, Kind.AND, Kind.OR,
            Kind.LEFT_SHIFT, Kind.RIGHT_SHIFT, Kind.UNARY_MINUS, Kind.LOGICAL_COMPLEMENT,
            Kind.CONDITIONAL_AND, Kind.CONDITIONAL_OR, Kind.EQUAL_TO, Kind.LESS_THAN, Kind.LESS_THAN_EQUAL,
            Kind.GREATER_THAN, Kind.GREATER_THAN_EQUAL);
    private static final Set<TypeKind> NUMBERS = EnumSet.of(
            TypeKind.INT, TypeKind.LONG, TypeKind.SHORT, TypeKind.BYTE, TypeKind.CHAR, TypeKind.BOOLEAN);
    private static final int MOST_LINES = 60;
    private static final int MOST_PARAMETERS = 7;
    private static final int MOST_CALL_DEPTH = 6;
    private static final int MOST_FIELDS = 40;

    /** Members that break a rule, each with the rule's number; the check must find every one. */
    private static final String[][] BROKEN = {
        {"1", "void shown() {}"},
        {"1", "protected int shown;"},
        {"1", "private void get() {}"},
        {"1", "private static class Inner {}"},
        {"1", "private interface Inner {}"},
        {"1", "private enum Inner {ONE}"},
        {"1", "private record Inner() {}"},
        {"2", "private float part;"},
        {"2", "private int half() { double d = 0; return 1; }"},
        {"2", "private String text;"},
        {"2", "private Object it;"},
        {"2", "private final int[][] table = new int[4][4];"},
        {"2", "private int text() { var text = \"text\"; return 1; }"},
        {"3", "private int least() { return Math.min(count, 1); }"},
        {"3", "private int code() { return hashCode(); }"},
        {"3", "private int most() { return Integer.MAX_VALUE; }"},
        {"4", "private int[] other = new int[4];"},
        {"4", "private final int[] other = {1, 2};"},
        {"4", "private final int[] other = new int[0];"},
        {"4", "private final int[] other = new int[NONE];"},
        {"4", "private final int[] other = new int[count];"},
        {"4", "private int make() { int[] made = new int[4]; return made[0]; }"},
        {"4", "private int[] all() { return held; }"},
        {"4", "private void change() { held = held; }"},
        {"4", "private boolean same() { return held == held; }"},
        {"4", "private boolean gone() { return null == null; }"},
        {"5", "private static int shared;"},
        {"5", "private static final boolean YES = true;"},
        {"5", "private static final int[] SHARED = new int[4];"},
        {"5", "private static final int COUNTED = counted(); private static int counted() { return 1; }"},
        {"5", "static { }"},
        {"6", "private void fail() { throw new RuntimeException(); }"},
        {"6", "private void attempt() { try { count = 1; } finally { count = 2; } }"},
        {"6", "private void alone() { synchronized (this) { count = 1; } }"},
        {"6", "private synchronized void alone() { count = 1; }"},
        {"6", "private void sure() { assert count == 1; }"},
        {"6", "private boolean is() { return this instanceof BestTree; }"},
        {"6", "private void later() { Runnable r = () -> { }; }"},
        {"8", "private int again(int n) { return again(n); }"},
        {"8", "private int one() { return two(); } private int two() { return one(); }"},
        {"8", "private void ever() { for (;;) { count = 1; } }"},
        {"8", "private void ever() { while (true) { count = 1; } }"},
        {"8", "private void ever() { for (int i = 0; i < 9; ) { count = 1; } }"},
        {"8", "private void ever() { for (int i = 0; count < 9; i++) { held[1] = 1; } }"},
        {"8", "private void ever() { for (int i = 0; i < 9; i++) { i = 0; } }"},
        {"8", "private void ever() { for (int i = 0; i < 9; i++) { i += -1; } }"},
        {"8", "private void ever() { for (int i = 0; i < 9; i++) { i--; } }"},
        {"8", "private void ever() { for (int i = 0; i < 9; i--) { count = 1; } }"},
        {"8", "private void ever() { for (int i = 0; i < count; i++) { count++; } }"},
        {"10", "private void many(int a, int b, int c, int d, int e, int f, int g, int h) {}"},
        {"10", "private int in(int a) { return a; } private int out() { return in(in(1)); }"},
        {"10", "private int in(int a) { return a; } private int out() { return in(1 + in(1)); }"},
        {"10", "private void lines() {" + "\n".repeat(MOST_LINES) + "}"},
        {"10", "private void a() { b(); } private void b() { c(); } private void c() { d(); }"
                + " private void d() { e(); } private void e() { f(); } private void f() { g(); }"
                + " private void g() {}"},
        {"10", fields(MOST_FIELDS)},
        {"11", "private long now() { return System.nanoTime(); }"},
    };
    private static final String FRAME = "public final class BestTree {"
            + " private static final int NONE = 0; private final int[] held = new int[4]; private int count;"
            + " public BestTree() {} public int get() { return count; } %s }";

    public static void main(String[] args) throws IOException {
        int wrong = 0;
        for (String fault : check(Files.readString(Path.of("src/main/java/BestTree.java")))) {
            wrong++;
            System.out.println(fault);
        }
        if (!check(String.format(FRAME, "")).isEmpty()) {
            wrong++;
            System.out.println("the check finds a fault where there is none");
        }
        for (String[] broken : BROKEN) {
            if (check(String.format(FRAME, broken[1])).isEmpty()) {
                wrong++;
                System.out.println("the check misses rule " + broken[0] + ": " + broken[1]);
            }
        }
        System.out.println(wrong + " faults against LANGUAGE.md");
        if (wrong != 0) {
            System.exit(1);
        }
    }

    private static String fields(int number) {
        StringBuilder fields = new StringBuilder();
        for (int i = 0; i < number; i++) {
            fields.append("private int field").append(i).append("; ");
        }
        return fields.toString();
    }

    private static Set<String> check(String source) throws IOException {
        JavaFileObject file = new SimpleJavaFileObject(URI.create("string:///BestTree.java"), JavaFileObject.Kind.SOURCE) {
            @Override
            public CharSequence getCharContent(boolean ignoreErrors) {
                return source;
            }
        };
        JavaCompiler compiler = ToolProvider.getSystemJavaCompiler();
        JavacTask task = (JavacTask) compiler.getTask(null, null, null, List.of("--release", "17"), null, List.of(file));
        CompilationUnitTree unit = task.parse().iterator().next();
        Checker checker = new Checker(unit, Trees.instance(task).getSourcePositions());
        checker.checkAll();
        return checker.faults;
    }

    private static final class Checker extends TreeScanner<Void, Void> {
        private final Set<String> faults = new TreeSet<>();
        private final CompilationUnitTree unit;
        private final SourcePositions positions;
        private final LineMap lines;
        private final Map<String, Set<String>> calls = new HashMap<>();
        private final Set<String> arrays = new HashSet<>();
        private final Map<String, Integer> constants = new HashMap<>();
        private final Set<Tree> placed = new HashSet<>();
        private String method = "";
        private int argumentDepth = 0;

        Checker(CompilationUnitTree unit, SourcePositions positions) {
            this.unit = unit;
            this.positions = positions;
            this.lines = unit.getLineMap();
        }

        private void fault(int rule, Tree where, String what) {
            faults.add("rule " + rule + ", line " + lineOf(where) + ": " + what);
        }

        private long lineOf(Tree tree) {
            return lines.getLineNumber(positions.getStartPosition(unit, tree));
        }

        private void due(boolean holds, int rule, Tree where, String what) {
            if (!holds) {
                fault(rule, where, what);
            }
        }

        void checkAll() {
            due(unit.getPackage() == null, 1, unit, "a package line");
            due(unit.getImports().isEmpty(), 3, unit, "an import");
            due(unit.getTypeDecls().size() == 1, 1, unit, "not one class");
            ClassTree type = (ClassTree) unit.getTypeDecls().get(0);
            Set<Modifier> flags = type.getModifiers().getFlags();
            due(flags.equals(Set.of(Modifier.PUBLIC, Modifier.FINAL)), 1, type, "the class is not public and final");
            due(type.getExtendsClause() == null && type.getImplementsClause().isEmpty(), 1, type, "a class above it");
            checkMembers(type);
            scan(unit, null);
            for (String name : calls.keySet()) {
                checkDepth(name, 1);
            }
        }

        private void checkMembers(ClassTree type) {
            Set<String> shown = new HashSet<>();
            Set<String> hidden = new HashSet<>();
            int fields = 0;
            for (Tree member : type.getMembers()) {
                if (member instanceof VariableTree) {
                    checkField((VariableTree) member);
                    fields += constants.containsKey(((VariableTree) member).getName().toString()) ? 0 : 1;
                } else if (member instanceof MethodTree) {
                    checkMethod((MethodTree) member);
                    Set<Modifier> flags = ((MethodTree) member).getModifiers().getFlags();
                    (flags.contains(Modifier.PRIVATE) ? hidden : shown).add(((MethodTree) member).getName().toString());
                } else {
                    fault(member instanceof BlockTree ? 5 : 1, member, "neither a field nor a method");
                }
            }
            hidden.retainAll(shown);
            due(hidden.isEmpty(), 1, type, "both private and public: " + hidden);
            due(fields <= MOST_FIELDS, 10, type, fields + " fields");
        }

        private void checkField(VariableTree field) {
            Set<Modifier> flags = field.getModifiers().getFlags();
            String name = field.getName().toString();
            due(flags.contains(Modifier.PRIVATE), 1, field, name + " is not private");
            if (flags.contains(Modifier.STATIC)) {
                Integer value = constant(field.getInitializer());
                boolean fixed = flags.contains(Modifier.FINAL) && isIntOrLong(field.getType()) && value != null;
                due(fixed, 5, field, name + " is no constant");
                if (value != null) {
                    constants.put(name, value);
                }
            } else if (field.getType() instanceof ArrayTypeTree) {
                arrays.add(name);
                due(flags.contains(Modifier.FINAL), 4, field, name + " may be assigned to");
                due(isMade(field.getInitializer()), 4, field, name + " is not made with a constant length of 1 or more");
                placed.add(field.getType());
                placed.add(field.getInitializer());
            }
        }

        private boolean isIntOrLong(Tree type) {
            if (!(type instanceof PrimitiveTypeTree)) {
                return false;
            }
            TypeKind kind = ((PrimitiveTypeTree) type).getPrimitiveTypeKind();
            return kind == TypeKind.INT || kind == TypeKind.LONG;
        }

        private boolean isMade(ExpressionTree made) {
            if (!(made instanceof NewArrayTree) || ((NewArrayTree) made).getDimensions().size() != 1) {
                return false;
            }
            ExpressionTree length = ((NewArrayTree) made).getDimensions().get(0);
            boolean plain = length instanceof LiteralTree || length instanceof IdentifierTree;
            Integer value = constant(length);
            return plain && value != null && value >= 1;
        }

        /** The value of an expression over literals and constants that stand above it, or null. */
        private Integer constant(ExpressionTree tree) {
            if (tree instanceof LiteralTree && ((LiteralTree) tree).getValue() instanceof Integer) {
                return (Integer) ((LiteralTree) tree).getValue();
            }
            if (tree instanceof IdentifierTree) {
                return constants.get(((IdentifierTree) tree).getName().toString());
            }
            if (tree instanceof UnaryTree && tree.getKind() == Kind.UNARY_MINUS) {
                Integer value = constant(((UnaryTree) tree).getExpression());
                return value == null ? null : Integer.valueOf(-value);
            }
            if (tree instanceof BinaryTree) {
                Integer left = constant(((BinaryTree) tree).getLeftOperand());
                Integer right = constant(((BinaryTree) tree).getRightOperand());
                return left == null || right == null ? null : combined(tree.getKind(), left, right);
            }
            return null;
        }

        private Integer combined(Kind kind, int left, int right) {
            switch (kind) {
                case PLUS: return left + right;
                case MINUS: return left - right;
                case MULTIPLY: return left * right;
                case LEFT_SHIFT: return left << right;
                default: return null;
            }
        }

        private void checkMethod(MethodTree tree) {
            Set<Modifier> flags = tree.getModifiers().getFlags();
            String name = tree.getName().toString();
            boolean privateOrFace = flags.contains(Modifier.PRIVATE) || flags.equals(Set.of(Modifier.PUBLIC));
            due(privateOrFace, 1, tree, name + " is neither private nor plainly public");
            due(!flags.contains(Modifier.SYNCHRONIZED) && !flags.contains(Modifier.NATIVE), 6, tree, name + " is " + flags);
            due(tree.getThrows().isEmpty(), 6, tree, name + " throws");
            due(tree.getParameters().size() <= MOST_PARAMETERS, 10, tree, name + " takes too many parameters");
            long first = lineOf(tree);
            long last = lines.getLineNumber(positions.getEndPosition(unit, tree));
            due(last - first < MOST_LINES, 10, tree, name + " is too long");
            // Overloads would share one row of calls, and a cycle might be seen where there is none.
            due(calls.put(name, new HashSet<>()) == null, 1, tree, name + " is there twice");
        }

        private void checkDepth(String name, int depth) {
            if (depth > MOST_CALL_DEPTH) {
                faults.add("rules 8 and 10: calls go too deep at " + name);
                return;
            }
            for (String called : calls.get(name)) {
                if (calls.containsKey(called)) {
                    checkDepth(called, depth + 1);
                }
            }
        }

        @Override
        public Void scan(Tree tree, Void nothing) {
            if (tree != null && !FORMS.contains(tree.getKind())) {
                faults.add("line " + lineOf(tree) + ": a form that is not let through: " + tree.getKind());
                return null;
            }
            return super.scan(tree, nothing);
        }

        @Override
        public Void visitMethod(MethodTree tree, Void nothing) {
            method = tree.getName().toString();
            return super.visitMethod(tree, nothing);
        }

        @Override
        public Void visitVariable(VariableTree tree, Void nothing) {
            Tree type = tree.getType();
            boolean plain = type instanceof PrimitiveTypeTree || type instanceof ArrayTypeTree;
            due(plain, 2, tree, "a type that is no number: " + tree);
            return super.visitVariable(tree, nothing);
        }

        @Override
        public Void visitPrimitiveType(PrimitiveTypeTree tree, Void nothing) {
            TypeKind kind = tree.getPrimitiveTypeKind();
            due(NUMBERS.contains(kind) || kind == TypeKind.VOID, 2, tree, "the type " + kind);
            return super.visitPrimitiveType(tree, nothing);
        }

        @Override
        public Void visitArrayType(ArrayTypeTree tree, Void nothing) {
            due(placed.contains(tree), 4, tree, "an array that is no field");
            due(tree.getType() instanceof PrimitiveTypeTree, 2, tree, "an array of arrays");
            return super.visitArrayType(tree, nothing);
        }

        @Override
        public Void visitNewArray(NewArrayTree tree, Void nothing) {
            due(placed.contains(tree), 4, tree, "an array made elsewhere than in a field's initialiser");
            return super.visitNewArray(tree, nothing);
        }

        @Override
        public Void visitArrayAccess(ArrayAccessTree tree, Void nothing) {
            due(tree.getExpression() instanceof IdentifierTree, 2, tree, "a place in something that is no field");
            return scan(tree.getIndex(), nothing);
        }

        @Override
        public Void visitIdentifier(IdentifierTree tree, Void nothing) {
            String name = tree.getName().toString();
            due(!arrays.contains(name), 4, tree, "an array used as a whole: " + name);
            due(!name.equals("this") && !name.equals("super"), 2, tree, "an object used as a whole: " + name);
            return super.visitIdentifier(tree, nothing);
        }

        @Override
        public Void visitMethodInvocation(MethodInvocationTree tree, Void nothing) {
            due(argumentDepth == 0, 10, tree, "a call inside the arguments of another: " + tree);
            String name = tree.getMethodSelect().toString();
            if (calls.containsKey(name)) {
                calls.get(method).add(name);
            } else if (!isImplicitSuper(tree)) {
                fault(3, tree, "a call of something outside the class: " + tree);
            }
            argumentDepth++;
            scan(tree.getArguments(), nothing);
            argumentDepth--;
            return null;
        }

        private boolean isImplicitSuper(MethodInvocationTree tree) {
            return method.equals("<init>") && tree.toString().equals("super()");
        }

        /** for (int i = a; i < b; i++), where neither i nor what b names changes inside. */
        @Override
        public Void visitForLoop(ForLoopTree tree, Void nothing) {
            String counter = counterOf(tree);
            due(counter != null, 8, tree, "a loop that does not count up to a bound");
            if (counter != null) {
                Set<String> changed = new HashSet<>();
                new Changes().scan(tree.getStatement(), changed);
                due(!changed.contains(counter), 8, tree, "the counter changes inside: " + counter);
                String bound = ((BinaryTree) bare(tree.getCondition())).getRightOperand().toString();
                due(!changed.contains(bound), 8, tree, "the bound changes inside: " + bound);
            }
            return super.visitForLoop(tree, nothing);
        }

        private static ExpressionTree bare(ExpressionTree tree) {
            return tree instanceof ParenthesizedTree ? ((ParenthesizedTree) tree).getExpression() : tree;
        }

        private static String counterOf(ForLoopTree tree) {
            if (tree.getInitializer().size() != 1 || tree.getUpdate().size() != 1 || tree.getCondition() == null) {
                return null;
            }
            StatementTree start = tree.getInitializer().get(0);
            ExpressionTree condition = bare(tree.getCondition());
            ExpressionTree step = ((ExpressionStatementTree) tree.getUpdate().get(0)).getExpression();
            boolean bounded = condition.getKind() == Kind.LESS_THAN || condition.getKind() == Kind.LESS_THAN_EQUAL;
            if (!(start instanceof VariableTree) || !bounded || step.getKind() != Kind.POSTFIX_INCREMENT) {
                return null;
            }
            String name = ((VariableTree) start).getName().toString();
            BinaryTree comparison = (BinaryTree) condition;
            boolean simple = comparison.getRightOperand() instanceof IdentifierTree
                    || comparison.getRightOperand() instanceof LiteralTree;
            boolean same = comparison.getLeftOperand().toString().equals(name)
                    && ((UnaryTree) step).getExpression().toString().equals(name);
            return simple && same ? name : null;
        }
    }

    /** Gathers the names that are assigned to. */
    private static final class Changes extends TreeScanner<Void, Set<String>> {
        @Override
        public Void visitAssignment(AssignmentTree tree, Set<String> names) {
            names.add(tree.getVariable().toString());
            return super.visitAssignment(tree, names);
        }

        @Override
        public Void visitCompoundAssignment(CompoundAssignmentTree tree, Set<String> names) {
            names.add(tree.getVariable().toString());
            return super.visitCompoundAssignment(tree, names);
        }

        @Override
        public Void visitUnary(UnaryTree tree, Set<String> names) {
            if (tree.getKind() == Kind.POSTFIX_INCREMENT || tree.getKind() == Kind.POSTFIX_DECREMENT) {
                names.add(tree.getExpression().toString());
            }
            return super.visitUnary(tree, names);
        }
    }
}
