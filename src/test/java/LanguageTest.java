import com.sun.source.tree.*;
import com.sun.source.util.JavacTask;
import com.sun.source.util.SourcePositions;
import com.sun.source.util.TreeScanner;
import com.sun.source.util.Trees;
import java.io.File;
import java.util.ArrayList;
import java.util.HashMap;
import java.util.List;
import java.util.Map;
import java.util.Set;
import java.util.TreeSet;
import javax.lang.model.element.Modifier;
import javax.lang.model.type.TypeKind;
import javax.tools.JavaCompiler;
import javax.tools.StandardJavaFileManager;
import javax.tools.ToolProvider;

/**
 * What can be seen of LANGUAGE.md in the source of the class: of rule 7 the divisors alone. AnyCallTest and
 * EveryStackTest look at rules 7 and 11 by calls.
 */
final class LanguageTest extends TreeScanner<Void, Void> {
    private static final String SOURCE = "src/main/java/VectorLanes.java";
    private static final int[] RULES = {1, 2, 3, 4, 5, 6, 7, 8, 10};

    private final Map<Integer, List<String>> breaches = new HashMap<>();
    private final Map<String, Set<String>> calls = new HashMap<>();
    private final Set<String> methods = new TreeSet<>();
    private final Set<String> constants = new TreeSet<>();
    private final Set<String> arrayFields = new TreeSet<>();
    private final Set<String> changingFields = new TreeSet<>();
    private final List<String> divisorsThatAreNot0 = new ArrayList<>();
    private final CompilationUnitTree unit;
    private final SourcePositions positions;
    private String method = "";
    private int classes = 0;
    private int fields = 0;
    private int callsAround = 0;

    private LanguageTest(CompilationUnitTree unit, SourcePositions positions) {
        this.unit = unit;
        this.positions = positions;
        for (int rule : RULES) {
            breaches.put(rule, new ArrayList<>());
        }
    }

    public static void main(String[] args) throws Exception {
        JavaCompiler compiler = ToolProvider.getSystemJavaCompiler();
        StandardJavaFileManager files = compiler.getStandardFileManager(null, null, null);
        JavacTask task = (JavacTask) compiler.getTask(null, files, null, List.of("--release", "17"), null,
            files.getJavaFileObjects(new File(SOURCE)));
        CompilationUnitTree unit = task.parse().iterator().next();
        LanguageTest test = new LanguageTest(unit, Trees.instance(task).getSourcePositions());
        test.look();
        for (int rule : RULES) {
            Due.sentence("LANGUAGE.md, rule " + rule);
            Due.is("breaches " + test.breaches.get(rule), test.breaches.get(rule).size(), 0);
        }
        Due.end("LanguageTest");
    }

    private void look() {
        breach(1, unit.getPackageName() != null, unit, "a package line");
        breach(3, !unit.getImports().isEmpty(), unit, "an import");
        breach(1, unit.getTypeDecls().size() != 1, unit, "not one class");
        ClassTree face = (ClassTree) unit.getTypeDecls().get(0);
        breach(1, !face.getSimpleName().contentEquals("VectorLanes"), face, "another name");
        Set<Modifier> flags = face.getModifiers().getFlags();
        breach(1, !flags.equals(Set.of(Modifier.PUBLIC, Modifier.FINAL)), face, "not public and final");
        breach(1, face.getExtendsClause() != null, face, "a class above it");
        breach(1, !face.getImplementsClause().isEmpty(), face, "an interface above it");
        for (Tree member : face.getMembers()) {
            enter(member);
        }
        scan(face, null);
        breach(10, fields > 40, face, fields + " fields");
        for (String name : methods) {
            lookAtDepth(name, List.of());
        }
    }

    private void enter(Tree member) {
        if (member instanceof MethodTree) {
            MethodTree m = (MethodTree) member;
            String name = m.getName().toString();
            methods.add(name);
            Set<Modifier> flags = m.getModifiers().getFlags();
            boolean plain = flags.contains(Modifier.PUBLIC) || flags.contains(Modifier.PRIVATE);
            breach(1, !plain, m, name + " is neither public nor private");
        } else if (member instanceof VariableTree) {
            enterField((VariableTree) member);
        } else {
            breach(5, member instanceof BlockTree, member, "an initialiser block");
        }
    }

    private void enterField(VariableTree f) {
        Set<Modifier> flags = f.getModifiers().getFlags();
        String name = f.getName().toString();
        breach(1, !flags.contains(Modifier.PRIVATE), f, name + " is not private");
        if (flags.contains(Modifier.STATIC)) {
            boolean isWholeNumber = f.getType().toString().matches("int|long");
            breach(5, !flags.contains(Modifier.FINAL) || !isWholeNumber, f, name + " is no constant");
            constants.add(name);
            return;
        }
        fields++;
        changingFields.add(name);
        if (f.getType() instanceof ArrayTypeTree) {
            arrayFields.add(name);
            breach(4, !flags.contains(Modifier.FINAL), f, name + " could be assigned to");
        }
    }

    private void breach(int rule, boolean is, Tree where, String what) {
        if (is) {
            long line = unit.getLineMap().getLineNumber(positions.getStartPosition(unit, where));
            breaches.get(rule).add("line " + line + ": " + what);
        }
    }

    /** Calls go at most six deep, and none comes back to where it was: `above` are the methods under way. */
    private void lookAtDepth(String name, List<String> above) {
        if (above.contains(name)) {
            breaches.get(8).add("recursion through " + name);
            return;
        }
        List<String> now = new ArrayList<>(above);
        now.add(name);
        if (now.size() > 6) {
            breaches.get(10).add("calls too deep: " + now);
        }
        for (String next : calls.getOrDefault(name, Set.of())) {
            lookAtDepth(next, now);
        }
    }

    @Override
    public Void visitClass(ClassTree t, Void p) {
        classes++;
        breach(1, classes > 1, t, "a class within the class");
        return super.visitClass(t, p);
    }

    @Override
    public Void visitMethod(MethodTree t, Void p) {
        method = t.getName().toString();
        boolean array = t.getReturnType() instanceof ArrayTypeTree;
        breach(4, array, t, method + " answers an array");
        breach(10, t.getParameters().size() > 7, t, method + " takes more than seven");
        long first = unit.getLineMap().getLineNumber(positions.getStartPosition(unit, t));
        long last = unit.getLineMap().getLineNumber(positions.getEndPosition(unit, t));
        breach(10, last - first >= 60, t, method + " is long");
        breach(6, !t.getThrows().isEmpty(), t, "throws");
        super.visitMethod(t, p);
        method = "";
        return null;
    }

    @Override
    public Void visitVariable(VariableTree t, Void p) {
        Tree type = t.getType();
        if (type instanceof ArrayTypeTree) {
            type = ((ArrayTypeTree) type).getType();
        }
        breach(2, !(type instanceof PrimitiveTypeTree), t, t.getName() + " is of type " + t.getType());
        return super.visitVariable(t, p);
    }

    @Override
    public Void visitPrimitiveType(PrimitiveTypeTree t, Void p) {
        TypeKind kind = t.getPrimitiveTypeKind();
        breach(2, kind == TypeKind.FLOAT || kind == TypeKind.DOUBLE, t, "a " + kind);
        return super.visitPrimitiveType(t, p);
    }

    @Override
    public Void visitLiteral(LiteralTree t, Void p) {
        String kind = t.getKind().toString();
        breach(2, kind.matches("(STRING|FLOAT|DOUBLE)_LITERAL"), t, "a " + kind);
        breach(4, kind.equals("NULL_LITERAL"), t, "null");
        return super.visitLiteral(t, p);
    }

    @Override
    public Void visitMemberSelect(MemberSelectTree t, Void p) {
        boolean ofThis = t.getExpression().toString().equals("this");
        breach(3, !ofThis && !t.getIdentifier().contentEquals("length"), t, "" + t);
        return super.visitMemberSelect(t, p);
    }

    @Override
    public Void visitMethodInvocation(MethodInvocationTree t, Void p) {
        String name = t.getMethodSelect().toString().replace("this.", "");
        if (!(name.equals("super") && method.equals("<init>"))) {
            breach(3, !methods.contains(name), t, "call of " + name);
            calls.computeIfAbsent(method, k -> new TreeSet<>()).add(name);
        }
        breach(10, callsAround > 0, t, "call of " + name + " among the arguments of a call");
        scan(t.getMethodSelect(), p);
        callsAround++;
        scan(t.getArguments(), p);
        callsAround--;
        return null;
    }

    @Override
    public Void visitNewArray(NewArrayTree t, Void p) {
        breach(4, !method.isEmpty(), t, "an array made in " + method);
        breach(4, t.getInitializers() != null || t.getDimensions().size() != 1, t, "an array without one length");
        for (ExpressionTree length : t.getDimensions()) {
            boolean fixed = length instanceof LiteralTree || constants.contains(length.toString());
            breach(4, !fixed, t, "length " + length);
        }
        return super.visitNewArray(t, p);
    }

    @Override
    public Void visitNewClass(NewClassTree t, Void p) {
        breach(2, true, t, "an object made");
        return super.visitNewClass(t, p);
    }

    @Override
    public Void visitAssignment(AssignmentTree t, Void p) {
        breach(4, arrayFields.contains(t.getVariable().toString().replace("this.", "")), t, "assigned: " + t);
        return super.visitAssignment(t, p);
    }

    @Override
    public Void visitTypeCast(TypeCastTree t, Void p) {
        breach(6, !(t.getType() instanceof PrimitiveTypeTree), t, "" + t);
        return super.visitTypeCast(t, p);
    }

    /** The class keeps to for loops with a counter: of these it can be seen here that they end. */
    @Override
    public Void visitForLoop(ForLoopTree t, Void p) {
        boolean counts = t.getUpdate().size() == 1 && t.getUpdate().get(0).getExpression() instanceof UnaryTree;
        breach(8, !counts, t, "a for loop without one counter");
        if (counts) {
            UnaryTree step = (UnaryTree) t.getUpdate().get(0).getExpression();
            breach(8, !runsAgainstBound(t, step), t, "the end of the loop can't be seen: " + t.getCondition());
        }
        return super.visitForLoop(t, p);
    }

    private boolean runsAgainstBound(ForLoopTree loop, UnaryTree step) {
        boolean rises = step.getKind().toString().endsWith("INCREMENT");
        String counter = step.getExpression().toString();
        for (BinaryTree part : comparisons(loop.getCondition())) {
            boolean against = part.getKind() == (rises ? Tree.Kind.LESS_THAN : Tree.Kind.GREATER_THAN)
                && part.getLeftOperand().toString().equals(counter);
            String bound = part.getRightOperand().toString();
            boolean local = bound.matches("\\w+") && !changingFields.contains(bound) && !changingFields.contains(counter);
            if (against && local && !assigns(loop.getStatement(), counter, bound)) {
                return true;
            }
        }
        return false;
    }

    /** The comparisons that must all hold for the loop to go on. */
    private static List<BinaryTree> comparisons(ExpressionTree condition) {
        List<BinaryTree> found = new ArrayList<>();
        if (condition instanceof BinaryTree) {
            BinaryTree both = (BinaryTree) condition;
            if (both.getKind() == Tree.Kind.CONDITIONAL_AND) {
                found.addAll(comparisons(both.getLeftOperand()));
                found.addAll(comparisons(both.getRightOperand()));
            } else {
                found.add(both);
            }
        }
        return found;
    }

    private static boolean assigns(Tree body, String one, String other) {
        boolean[] found = {false};
        new TreeScanner<Void, Void>() {
            private void assigned(ExpressionTree variable) {
                String name = variable.toString();
                found[0] |= name.equals(one) || name.equals(other);
            }

            @Override
            public Void visitAssignment(AssignmentTree t, Void p) {
                assigned(t.getVariable());
                return super.visitAssignment(t, p);
            }

            @Override
            public Void visitCompoundAssignment(CompoundAssignmentTree t, Void p) {
                assigned(t.getVariable());
                return super.visitCompoundAssignment(t, p);
            }

            @Override
            public Void visitUnary(UnaryTree t, Void p) {
                if (t.getKind().toString().endsWith("CREMENT")) {
                    assigned(t.getExpression());
                }
                return super.visitUnary(t, p);
            }
        }.scan(body, null);
        return found[0];
    }

    @Override
    public Void visitWhileLoop(WhileLoopTree t, Void p) {
        breach(8, true, t, "a while loop");
        return super.visitWhileLoop(t, p);
    }

    @Override
    public Void visitDoWhileLoop(DoWhileLoopTree t, Void p) {
        breach(8, true, t, "a do loop");
        return super.visitDoWhileLoop(t, p);
    }

    /** A divisor is looked at by "m == 0 ? .. : n / m", or is a number other than 0. */
    @Override
    public Void visitConditionalExpression(ConditionalExpressionTree t, Void p) {
        String condition = t.getCondition().toString().replaceAll("[()]", "");
        scan(t.getCondition(), p);
        scan(t.getTrueExpression(), p);
        divisorsThatAreNot0.add(condition.endsWith(" == 0") ? condition.replace(" == 0", "") : "");
        scan(t.getFalseExpression(), p);
        divisorsThatAreNot0.remove(divisorsThatAreNot0.size() - 1);
        return null;
    }

    private void lookAtDivisor(Tree division, ExpressionTree divisor) {
        if (division.getKind().toString().matches("(DIVIDE|REMAINDER).*")) {
            String name = divisor.toString();
            boolean not0 = name.matches("[1-9][0-9]*") || divisorsThatAreNot0.contains(name);
            breach(7, !not0, division, "a divisor that is not looked at: " + division);
        }
    }

    @Override
    public Void visitBinary(BinaryTree t, Void p) {
        lookAtDivisor(t, t.getRightOperand());
        return super.visitBinary(t, p);
    }

    @Override
    public Void visitCompoundAssignment(CompoundAssignmentTree t, Void p) {
        lookAtDivisor(t, t.getExpression());
        return super.visitCompoundAssignment(t, p);
    }

    @Override
    public Void visitThrow(ThrowTree t, Void p) {
        breach(6, true, t, "throw");
        return super.visitThrow(t, p);
    }

    @Override
    public Void visitTry(TryTree t, Void p) {
        breach(6, true, t, "try");
        return super.visitTry(t, p);
    }

    @Override
    public Void visitSynchronized(SynchronizedTree t, Void p) {
        breach(6, true, t, "synchronized");
        return super.visitSynchronized(t, p);
    }

    @Override
    public Void visitAssert(AssertTree t, Void p) {
        breach(6, true, t, "assert");
        return super.visitAssert(t, p);
    }

    @Override
    public Void visitInstanceOf(InstanceOfTree t, Void p) {
        breach(6, true, t, "instanceof");
        return super.visitInstanceOf(t, p);
    }

    @Override
    public Void visitLambdaExpression(LambdaExpressionTree t, Void p) {
        breach(6, true, t, "a lambda");
        return super.visitLambdaExpression(t, p);
    }

    @Override
    public Void visitMemberReference(MemberReferenceTree t, Void p) {
        breach(6, true, t, "a method reference");
        return super.visitMemberReference(t, p);
    }
}
