import com.sun.source.tree.ArrayAccessTree;
import com.sun.source.tree.ArrayTypeTree;
import com.sun.source.tree.AssertTree;
import com.sun.source.tree.AssignmentTree;
import com.sun.source.tree.BinaryTree;
import com.sun.source.tree.BlockTree;
import com.sun.source.tree.ClassTree;
import com.sun.source.tree.CompilationUnitTree;
import com.sun.source.tree.CompoundAssignmentTree;
import com.sun.source.tree.DoWhileLoopTree;
import com.sun.source.tree.EnhancedForLoopTree;
import com.sun.source.tree.ExpressionStatementTree;
import com.sun.source.tree.ExpressionTree;
import com.sun.source.tree.ForLoopTree;
import com.sun.source.tree.IdentifierTree;
import com.sun.source.tree.InstanceOfTree;
import com.sun.source.tree.LambdaExpressionTree;
import com.sun.source.tree.LiteralTree;
import com.sun.source.tree.MemberReferenceTree;
import com.sun.source.tree.MemberSelectTree;
import com.sun.source.tree.MethodInvocationTree;
import com.sun.source.tree.MethodTree;
import com.sun.source.tree.NewArrayTree;
import com.sun.source.tree.NewClassTree;
import com.sun.source.tree.PrimitiveTypeTree;
import com.sun.source.tree.SynchronizedTree;
import com.sun.source.tree.ThrowTree;
import com.sun.source.tree.Tree;
import com.sun.source.tree.TryTree;
import com.sun.source.tree.TypeCastTree;
import com.sun.source.tree.UnaryTree;
import com.sun.source.tree.VariableTree;
import com.sun.source.tree.WhileLoopTree;
import com.sun.source.util.JavacTask;
import com.sun.source.util.SourcePositions;
import com.sun.source.util.TreeScanner;
import com.sun.source.util.Trees;
import java.io.IOException;
import java.util.ArrayList;
import java.util.HashMap;
import java.util.HashSet;
import java.util.List;
import java.util.Map;
import java.util.Set;
import java.util.TreeSet;
import javax.lang.model.element.Modifier;
import javax.lang.model.type.TypeKind;
import javax.tools.JavaCompiler;
import javax.tools.StandardJavaFileManager;
import javax.tools.ToolProvider;

/**
 * The rules of LANGUAGE.md, as far as the text of the class shows whether it keeps them; the message
 * names the rule. Some things are stricter here than there, because the class has no need of more:
 * every loop counts upwards to a bound, arrays are made by the initialisers of fields and named only
 * to reach one of their numbers, and nothing is selected with a dot. That an index and a divisor are
 * in range (rule 7) can't be seen from the text; the tests that make calls look for that.
 */
public final class LanguageTest {
    private static final String SOURCE = "src/main/java/ColourKinds.java";
    private static final String NAME = "ColourKinds";
    private static final String CONSTRUCTOR = "<init>";
    private static final int MOST_PARAMETERS = 7;
    private static final int MOST_LINES = 60;
    private static final int DEEPEST_CALLS = 6;
    private static final int MOST_FIELDS = 40;

    private static CompilationUnitTree unit;
    private static SourcePositions positions;
    private static int wrong = 0;

    private static long line(long position) {
        return unit.getLineMap().getLineNumber(position);
    }

    private static void require(boolean holds, int rule, Tree at, String what) {
        if (!holds) {
            wrong++;
            System.out.println("rule " + rule + ", line " + line(positions.getStartPosition(unit, at)) + ": " + what);
        }
    }

    private static void read() throws IOException {
        JavaCompiler compiler = ToolProvider.getSystemJavaCompiler();
        StandardJavaFileManager files = compiler.getStandardFileManager(null, null, null);
        JavacTask task = (JavacTask) compiler.getTask(null, files, null, null, null, files.getJavaFileObjects(SOURCE));
        unit = task.parse().iterator().next();
        positions = Trees.instance(task).getSourcePositions();
    }

    private static boolean isWholeNumber(Tree type) {
        return type instanceof PrimitiveTypeTree primitive
            && Set.of(TypeKind.INT, TypeKind.LONG, TypeKind.SHORT, TypeKind.BYTE, TypeKind.CHAR, TypeKind.BOOLEAN)
                .contains(primitive.getPrimitiveTypeKind());
    }

    private static boolean isArrayType(Tree type) {
        return type instanceof ArrayTypeTree array && isWholeNumber(array.getType());
    }

    private static boolean isVoid(Tree type) {
        return type instanceof PrimitiveTypeTree primitive && primitive.getPrimitiveTypeKind() == TypeKind.VOID;
    }

    private static boolean isNamed(Tree tree, String name) {
        return tree instanceof IdentifierTree identifier && identifier.getName().contentEquals(name);
    }

    /** What the members are called, gathered before the bodies are gone through. */
    private static final class Members {
        final Set<String> methods = new HashSet<>();
        final Set<String> constants = new HashSet<>();
        final Set<String> arrays = new HashSet<>();
        final Map<String, Set<String>> calls = new HashMap<>();
    }

    /** Goes through the whole class; knows in which member it is. */
    private static final class Rules extends TreeScanner<Void, Void> {
        private final Members members;
        private String method = "";
        private boolean inArguments = false;

        Rules(Members members) {
            this.members = members;
        }

        private Void forbid(int rule, Tree tree, String what) {
            require(false, rule, tree, what);
            return null;
        }

        @Override
        public Void visitMethod(MethodTree tree, Void none) {
            method = tree.getName().toString();
            boolean constructor = method.equals(CONSTRUCTOR);
            Tree answers = tree.getReturnType();
            require(constructor || isVoid(answers) || isWholeNumber(answers), 2, tree, "answers no number: " + method);
            require(tree.getParameters().size() <= MOST_PARAMETERS, 10, tree, "too many parameters: " + method);
            require(tree.getThrows().isEmpty() && tree.getTypeParameters().isEmpty(), 6, tree, "no plain method: " + method);
            require(tree.getModifiers().getAnnotations().isEmpty(), 3, tree, "annotated: " + method);
            require(!tree.getModifiers().getFlags().contains(Modifier.SYNCHRONIZED), 6, tree, "synchronized: " + method);
            require(tree.getBody() != null, 1, tree, "no body: " + method);
            long lines = line(positions.getEndPosition(unit, tree)) - line(positions.getStartPosition(unit, tree)) + 1;
            require(lines <= MOST_LINES, 10, tree, "too long: " + method);
            members.calls.put(method, new TreeSet<>());
            scan(tree.getParameters(), none);
            scan(tree.getBody(), none);
            method = "";
            return null;
        }

        @Override
        public Void visitVariable(VariableTree tree, Void none) {
            boolean field = method.isEmpty();
            boolean allowed = isWholeNumber(tree.getType()) || field && isArrayType(tree.getType());
            require(allowed, 2, tree, "no allowed type: " + tree);
            require(tree.getModifiers().getAnnotations().isEmpty(), 3, tree, "annotated: " + tree);
            return scan(tree.getInitializer(), none);
        }

        @Override
        public Void visitMethodInvocation(MethodInvocationTree tree, Void none) {
            boolean own = tree.getMethodSelect() instanceof IdentifierTree called
                && members.methods.contains(called.getName().toString());
            boolean fromObject = method.equals(CONSTRUCTOR) && isNamed(tree.getMethodSelect(), "super");
            require(own || fromObject, 3, tree, "no method of the class: " + tree);
            require(!inArguments, 10, tree, "a call inside the arguments of a call: " + tree);
            if (own && !method.isEmpty()) {
                members.calls.get(method).add(tree.getMethodSelect().toString());
            }
            boolean outer = inArguments;
            inArguments = true;
            scan(tree.getArguments(), none);
            inArguments = outer;
            return null;
        }

        @Override
        public Void visitNewArray(NewArrayTree tree, Void none) {
            require(method.isEmpty(), 4, tree, "an array that is not a field's from the start: " + tree);
            require(tree.getInitializers() == null, 4, tree, "an array without a length: " + tree);
            require(isWholeNumber(tree.getType()) && tree.getDimensions().size() == 1, 2, tree, "not of numbers: " + tree);
            for (ExpressionTree length : tree.getDimensions()) {
                boolean constant = members.constants.contains(length.toString());
                boolean literal = length instanceof LiteralTree number && number.getValue() instanceof Integer n && n >= 1;
                require(constant || literal, 4, tree, "the length is no constant: " + tree);
            }
            return null;
        }

        @Override
        public Void visitArrayAccess(ArrayAccessTree tree, Void none) {
            boolean field = members.arrays.contains(tree.getExpression().toString());
            require(field, 4, tree, "no number of an array field: " + tree);
            return scan(tree.getIndex(), none);
        }

        @Override
        public Void visitIdentifier(IdentifierTree tree, Void none) {
            require(!members.arrays.contains(tree.getName().toString()), 4, tree, "a whole array: " + tree);
            return null;
        }

        @Override
        public Void visitForLoop(ForLoopTree tree, Void none) {
            String counter = counter(tree);
            require(counter != null, 8, tree, "no counter from a start: " + tree);
            require(counter == null || isBounded(tree.getCondition(), counter), 8, tree, "no bound for " + counter);
            require(counter == null || counts(tree, counter), 8, tree, "does not count " + counter + " upwards");
            require(counter == null || !isChanged(tree.getStatement(), counter), 8, tree, "the body changes " + counter);
            return super.visitForLoop(tree, none);
        }

        private static String counter(ForLoopTree tree) {
            boolean one = tree.getInitializer().size() == 1;
            return one && tree.getInitializer().get(0) instanceof VariableTree start ? start.getName().toString() : null;
        }

        private static boolean isBounded(ExpressionTree condition, String counter) {
            if (!(condition instanceof BinaryTree binary)) {
                return false;
            }
            return switch (binary.getKind()) {
                case LESS_THAN -> isNamed(binary.getLeftOperand(), counter);
                case CONDITIONAL_AND ->
                    isBounded(binary.getLeftOperand(), counter) || isBounded(binary.getRightOperand(), counter);
                default -> false;
            };
        }

        private static boolean counts(ForLoopTree tree, String counter) {
            if (tree.getUpdate().size() != 1) {
                return false;
            }
            ExpressionStatementTree update = tree.getUpdate().get(0);
            return update.getExpression() instanceof UnaryTree step
                && step.getKind() == Tree.Kind.POSTFIX_INCREMENT && isNamed(step.getExpression(), counter);
        }

        private static boolean isChanged(Tree body, String counter) {
            Boolean changed = new TreeScanner<Boolean, Void>() {
                @Override
                public Boolean visitAssignment(AssignmentTree tree, Void none) {
                    return isNamed(tree.getVariable(), counter) || super.visitAssignment(tree, none) == Boolean.TRUE;
                }

                @Override
                public Boolean visitCompoundAssignment(CompoundAssignmentTree tree, Void none) {
                    return isNamed(tree.getVariable(), counter)
                        || super.visitCompoundAssignment(tree, none) == Boolean.TRUE;
                }

                @Override
                public Boolean visitUnary(UnaryTree tree, Void none) {
                    boolean steps = tree.getKind().name().matches("(PRE|POST)FIX_(IN|DE)CREMENT");
                    return steps && isNamed(tree.getExpression(), counter) || super.visitUnary(tree, none) == Boolean.TRUE;
                }

                @Override
                public Boolean reduce(Boolean one, Boolean other) {
                    return one == Boolean.TRUE || other == Boolean.TRUE;
                }
            }.scan(body, null);
            return changed == Boolean.TRUE;
        }

        @Override
        public Void visitLiteral(LiteralTree tree, Void none) {
            Object value = tree.getValue();
            boolean plain = value instanceof Integer || value instanceof Long || value instanceof Character
                || value instanceof Boolean;
            require(plain, 2, tree, "neither a number nor a truth value: " + tree);
            return null;
        }

        @Override
        public Void visitTypeCast(TypeCastTree tree, Void none) {
            require(isWholeNumber(tree.getType()), 6, tree, "a cast to no number: " + tree);
            return scan(tree.getExpression(), none);
        }

        @Override
        public Void visitMemberSelect(MemberSelectTree tree, Void none) {
            return forbid(3, tree, "something of another class: " + tree);
        }

        @Override
        public Void visitNewClass(NewClassTree tree, Void none) {
            return forbid(4, tree, "an object: " + tree);
        }

        @Override
        public Void visitClass(ClassTree tree, Void none) {
            return forbid(1, tree, "a nested class: " + tree.getSimpleName());
        }

        @Override
        public Void visitWhileLoop(WhileLoopTree tree, Void none) {
            return forbid(8, tree, "a loop without a counter of its own");
        }

        @Override
        public Void visitDoWhileLoop(DoWhileLoopTree tree, Void none) {
            return forbid(8, tree, "a loop without a counter of its own");
        }

        @Override
        public Void visitEnhancedForLoop(EnhancedForLoopTree tree, Void none) {
            return forbid(8, tree, "a loop without a counter of its own");
        }

        @Override
        public Void visitThrow(ThrowTree tree, Void none) {
            return forbid(6, tree, "throw");
        }

        @Override
        public Void visitTry(TryTree tree, Void none) {
            return forbid(6, tree, "try");
        }

        @Override
        public Void visitSynchronized(SynchronizedTree tree, Void none) {
            return forbid(6, tree, "synchronized");
        }

        @Override
        public Void visitAssert(AssertTree tree, Void none) {
            return forbid(6, tree, "assert");
        }

        @Override
        public Void visitInstanceOf(InstanceOfTree tree, Void none) {
            return forbid(6, tree, "instanceof");
        }

        @Override
        public Void visitLambdaExpression(LambdaExpressionTree tree, Void none) {
            return forbid(6, tree, "a lambda");
        }

        @Override
        public Void visitMemberReference(MemberReferenceTree tree, Void none) {
            return forbid(6, tree, "a method reference");
        }
    }

    private static Members gather(ClassTree whole) {
        Members members = new Members();
        for (Tree member : whole.getMembers()) {
            if (member instanceof MethodTree method) {
                String name = method.getName().toString();
                // The calls are told apart by their names alone.
                require(members.methods.add(name), 1, member, "two methods of one name: " + name);
            } else if (member instanceof VariableTree field) {
                Set<Modifier> flags = field.getModifiers().getFlags();
                if (flags.contains(Modifier.STATIC)) {
                    members.constants.add(field.getName().toString());
                } else if (field.getType() instanceof ArrayTypeTree) {
                    members.arrays.add(field.getName().toString());
                }
            }
        }
        return members;
    }

    private static void checkFields(ClassTree whole) {
        List<VariableTree> fields = new ArrayList<>();
        for (Tree member : whole.getMembers()) {
            require(!(member instanceof BlockTree), 5, member, "an initialiser");
            if (member instanceof VariableTree field) {
                Set<Modifier> flags = field.getModifiers().getFlags();
                if (flags.contains(Modifier.STATIC)) {
                    boolean number = field.getType().toString().matches("int|long");
                    boolean constant = flags.contains(Modifier.FINAL) && isConstant(field.getInitializer());
                    require(number && constant, 5, field, "static, but no constant: " + field);
                } else {
                    fields.add(field);
                    require(flags.contains(Modifier.PRIVATE), 1, field, "not private: " + field);
                }
            }
        }
        require(fields.size() <= MOST_FIELDS, 10, whole, "too many fields");
    }

    private static boolean isConstant(Tree value) {
        return value instanceof LiteralTree
            || value instanceof UnaryTree sign && sign.getKind() == Tree.Kind.UNARY_MINUS
                && sign.getExpression() instanceof LiteralTree;
    }

    /** How many calls deep it goes from this method on, itself counted; far too many if it comes back to itself. */
    private static int depth(Members members, String method, int above) {
        int deepest = 0;
        if (above <= DEEPEST_CALLS) {
            for (String called : members.calls.getOrDefault(method, Set.of())) {
                deepest = Math.max(deepest, depth(members, called, above + 1));
            }
        }
        return 1 + deepest;
    }

    public static void main(String[] args) throws IOException {
        read();
        require(unit.getPackage() == null, 1, unit, "a package line");
        require(unit.getImports().isEmpty(), 3, unit, "an import");
        require(unit.getTypeDecls().size() == 1, 1, unit, "not one class");
        ClassTree whole = (ClassTree) unit.getTypeDecls().get(0);
        require(whole.getKind() == Tree.Kind.CLASS && whole.getSimpleName().contentEquals(NAME), 1, whole, "not " + NAME);
        Members members = gather(whole);
        checkFields(whole);
        Rules rules = new Rules(members);
        for (Tree member : whole.getMembers()) {
            rules.scan(member, null);
        }
        int deepest = 0;
        for (String method : members.methods) {
            int depth = depth(members, method, 1);
            deepest = Math.max(deepest, depth);
            // Rule 8 too: a method that comes back to itself goes deeper than any bound.
            require(depth <= DEEPEST_CALLS, 10, whole, "calls go too deep from " + method);
        }
        System.out.println(wrong == 0
            ? "the class keeps to the rules; its calls go " + deepest + " deep"
            : wrong + " faults against the rules");
        if (wrong != 0) {
            System.exit(1);
        }
    }
}
