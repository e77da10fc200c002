import com.sun.source.tree.ArrayAccessTree;
import com.sun.source.tree.AssignmentTree;
import com.sun.source.tree.BinaryTree;
import com.sun.source.tree.BlockTree;
import com.sun.source.tree.ClassTree;
import com.sun.source.tree.CompilationUnitTree;
import com.sun.source.tree.CompoundAssignmentTree;
import com.sun.source.tree.ExpressionTree;
import com.sun.source.tree.ForLoopTree;
import com.sun.source.tree.IdentifierTree;
import com.sun.source.tree.LiteralTree;
import com.sun.source.tree.MemberSelectTree;
import com.sun.source.tree.MethodInvocationTree;
import com.sun.source.tree.MethodTree;
import com.sun.source.tree.NewArrayTree;
import com.sun.source.tree.PrimitiveTypeTree;
import com.sun.source.tree.StatementTree;
import com.sun.source.tree.Tree;
import com.sun.source.tree.Tree.Kind;
import com.sun.source.tree.TypeCastTree;
import com.sun.source.tree.UnaryTree;
import com.sun.source.tree.VariableTree;
import com.sun.source.util.JavacTask;
import com.sun.source.util.TreePath;
import com.sun.source.util.TreePathScanner;
import com.sun.source.util.TreeScanner;
import com.sun.source.util.Trees;
import java.io.IOException;
import java.io.UncheckedIOException;
import java.net.URI;
import java.util.ArrayList;
import java.util.HashSet;
import java.util.List;
import java.util.Map;
import java.util.Set;
import java.util.TreeMap;
import javax.lang.model.element.Modifier;
import javax.lang.model.type.TypeKind;
import javax.tools.JavaFileObject;
import javax.tools.SimpleJavaFileObject;
import javax.tools.ToolProvider;

/**
 * Finds in the text of a class what the rules of LANGUAGE.md forbid. Where a rule asks for
 * judgement it is taken more strictly than it is written: the only loop is a for with a counter,
 * a divisor is a constant, the constructor calls nothing, no two methods have one name, and the
 * word this isn't used. What the text can't show is left to other tests: that no call throws
 * (rule 7), and which members the document names (rule 1).
 */
final class Language extends TreePathScanner<Void, Void> {
    private static final int MOST_PARAMETERS = 7;
    private static final int MOST_LINES = 60;
    private static final int DEEPEST_CALL = 6;
    private static final int MOST_FIELDS = 40;
    private static final String NUMBER = "int|long|short|byte|char|boolean";
    private static final String CONSTRUCTOR = "<init>";

    private static final Map<Kind, Integer> FORBIDDEN = Map.ofEntries(
        Map.entry(Kind.THROW, 6), Map.entry(Kind.TRY, 6), Map.entry(Kind.SYNCHRONIZED, 6),
        Map.entry(Kind.ASSERT, 6), Map.entry(Kind.INSTANCE_OF, 6),
        Map.entry(Kind.LAMBDA_EXPRESSION, 6), Map.entry(Kind.MEMBER_REFERENCE, 6),
        Map.entry(Kind.ANNOTATION, 3), Map.entry(Kind.NEW_CLASS, 4),
        Map.entry(Kind.WHILE_LOOP, 8), Map.entry(Kind.DO_WHILE_LOOP, 8),
        Map.entry(Kind.ENHANCED_FOR_LOOP, 8));

    private static final Set<Kind> LITERALS = Set.of(
        Kind.INT_LITERAL, Kind.LONG_LITERAL, Kind.CHAR_LITERAL, Kind.BOOLEAN_LITERAL);

    private final List<String> faults = new ArrayList<>();
    private final CompilationUnitTree file;
    private final Trees trees;

    private final Set<String> constants = new HashSet<>();
    private final Set<String> fields = new HashSet<>();
    private final Set<String> arrays = new HashSet<>();
    private final Set<String> locals = new HashSet<>();
    private final Map<String, Set<String>> calls = new TreeMap<>();
    private String method = "";
    private int argumentsAround = 0;

    private Language(CompilationUnitTree file, Trees trees) {
        this.file = file;
        this.trees = trees;
    }

    /** A line for each fault, which begins with the number of the rule; 0 if it isn't Java. */
    static List<String> faults(String source) {
        JavaFileObject text = new SimpleJavaFileObject(
                URI.create("string:///Text.java"), JavaFileObject.Kind.SOURCE) {
            @Override
            public CharSequence getCharContent(boolean ignored) {
                return source;
            }
        };
        List<String> notJava = new ArrayList<>();
        JavacTask task = (JavacTask) ToolProvider.getSystemJavaCompiler()
            .getTask(null, null, error -> notJava.add("0: " + error), null, null, List.of(text));
        try {
            CompilationUnitTree file = task.parse().iterator().next();
            Language language = new Language(file, Trees.instance(task));
            language.faults.addAll(notJava);
            language.scan(new TreePath(file), null);
            language.checkDepth();
            return language.faults;
        } catch (IOException e) {
            throw new UncheckedIOException(e);
        }
    }

    private void fault(int rule, Object what) {
        faults.add(rule + ": " + what);
    }

    private void faultIf(boolean wrong, int rule, Object what) {
        if (wrong) {
            fault(rule, what);
        }
    }

    private Tree parent() {
        return getCurrentPath().getParentPath().getLeaf();
    }

    @Override
    public Void scan(Tree tree, Void none) {
        if (tree != null && FORBIDDEN.containsKey(tree.getKind())) {
            fault(FORBIDDEN.get(tree.getKind()), tree);
        }
        return super.scan(tree, none);
    }

    @Override
    public Void visitCompilationUnit(CompilationUnitTree tree, Void none) {
        faultIf(tree.getPackage() != null, 1, "a package line");
        faultIf(!tree.getImports().isEmpty(), 3, "an import");
        faultIf(tree.getTypeDecls().size() != 1, 1, "not just one class");
        return scan(tree.getTypeDecls(), none);
    }

    @Override
    public Void visitClass(ClassTree tree, Void none) {
        faultIf(parent() != file, 1, "nested " + tree.getSimpleName());
        faultIf(tree.getKind() != Kind.CLASS, 1, "not a class: " + tree.getSimpleName());
        faultIf(!tree.getModifiers().getFlags().equals(Set.of(Modifier.PUBLIC, Modifier.FINAL)),
            1, "not public and final: " + tree.getSimpleName());
        faultIf(tree.getExtendsClause() != null || !tree.getImplementsClause().isEmpty()
            || !tree.getTypeParameters().isEmpty(), 2, "other types in the class's head");
        for (Tree member : tree.getMembers()) {
            if (member instanceof VariableTree) {
                learnField((VariableTree) member);
            } else if (member instanceof MethodTree) {
                String name = ((MethodTree) member).getName().toString();
                faultIf(calls.put(name, new HashSet<>()) != null, 1, "two methods " + name);
            }
        }
        faultIf(fields.size() > MOST_FIELDS, 10, fields.size() + " fields");
        return super.visitClass(tree, none);
    }

    private void learnField(VariableTree field) {
        String name = field.getName().toString();
        boolean isStatic = field.getModifiers().getFlags().contains(Modifier.STATIC);
        (isStatic ? constants : fields).add(name);
        if (field.getType().toString().endsWith("[]")) {
            arrays.add(name);
        }
    }

    @Override
    public Void visitBlock(BlockTree tree, Void none) {
        faultIf(parent() instanceof ClassTree, 5, "an initialiser block");
        return super.visitBlock(tree, none);
    }

    @Override
    public Void visitMethod(MethodTree tree, Void none) {
        method = tree.getName().toString();
        locals.clear();
        arrays.retainAll(fields);
        Tree answer = tree.getReturnType();
        faultIf(answer != null && !answer.toString().matches(NUMBER + "|void"),
            answer instanceof PrimitiveTypeTree ? 2 : 4, method + " answers " + answer);
        faultIf(tree.getParameters().size() > MOST_PARAMETERS, 10, method + "'s parameters");
        faultIf(!tree.getThrows().isEmpty(), 6, method + " throws");
        long from = line(trees.getSourcePositions().getStartPosition(file, tree));
        long to = line(trees.getSourcePositions().getEndPosition(file, tree));
        faultIf(to - from >= MOST_LINES, 10, method + " has " + (to - from + 1) + " lines");
        return super.visitMethod(tree, none);
    }

    private long line(long position) {
        return file.getLineMap().getLineNumber(position);
    }

    @Override
    public Void visitVariable(VariableTree tree, Void none) {
        String name = tree.getName().toString();
        String type = String.valueOf(tree.getType());
        faultIf(!type.matches("(" + NUMBER + ")(\\[\\])?"), 2, type + " " + name);
        boolean isArray = type.endsWith("[]");
        if (isArray) {
            arrays.add(name);
        }
        if (parent() instanceof ClassTree) {
            checkField(tree, isArray);
        } else {
            locals.add(name);
            faultIf(fields.contains(name), 4, name + " hides a field");
        }
        return super.visitVariable(tree, none);
    }

    private void checkField(VariableTree tree, boolean isArray) {
        Set<Modifier> flags = tree.getModifiers().getFlags();
        faultIf(!flags.contains(Modifier.PRIVATE), 1, tree + " is not private");
        if (flags.contains(Modifier.STATIC)) {
            boolean known = tree.getInitializer() != null && isConstant(tree.getInitializer());
            faultIf(isArray || !flags.contains(Modifier.FINAL) || !known
                || !tree.getType().toString().matches("int|long"), 5, tree);
        }
    }

    private boolean isConstant(ExpressionTree tree) {
        boolean[] constant = {true};
        new TreeScanner<Void, Void>() {
            @Override
            public Void visitIdentifier(IdentifierTree name, Void none) {
                constant[0] &= constants.contains(name.getName().toString());
                return null;
            }

            @Override
            public Void visitMethodInvocation(MethodInvocationTree call, Void none) {
                constant[0] = false;
                return null;
            }
        }.scan(tree, null);
        return constant[0];
    }

    @Override
    public Void visitPrimitiveType(PrimitiveTypeTree tree, Void none) {
        TypeKind kind = tree.getPrimitiveTypeKind();
        faultIf(kind == TypeKind.FLOAT || kind == TypeKind.DOUBLE, 2, tree);
        return null;
    }

    @Override
    public Void visitLiteral(LiteralTree tree, Void none) {
        int rule = tree.getKind() == Kind.NULL_LITERAL ? 4 : 2;
        faultIf(!LITERALS.contains(tree.getKind()), rule, tree);
        return null;
    }

    @Override
    public Void visitTypeCast(TypeCastTree tree, Void none) {
        faultIf(!(tree.getType() instanceof PrimitiveTypeTree), 6, tree);
        return super.visitTypeCast(tree, none);
    }

    @Override
    public Void visitNewArray(NewArrayTree tree, Void none) {
        faultIf(!isMadeAtTheStart(), 4, method + " makes " + tree);
        faultIf(tree.getInitializers() != null || tree.getDimensions().size() != 1
            || !isLength(tree.getDimensions().get(0)), 4, tree);
        return super.visitNewArray(tree, none);
    }

    private boolean isMadeAtTheStart() {
        TreePath path = getCurrentPath().getParentPath();
        if (path.getLeaf() instanceof VariableTree) {
            return path.getParentPath().getLeaf() instanceof ClassTree;
        }
        return method.equals(CONSTRUCTOR) && path.getLeaf() instanceof AssignmentTree
            && path.getParentPath().getParentPath().getParentPath().getLeaf()
                instanceof MethodTree;
    }

    private boolean isLength(ExpressionTree tree) {
        boolean none = tree.toString().equals("0");
        return !none && (tree.getKind() == Kind.INT_LITERAL
            || tree instanceof IdentifierTree && constants.contains(tree.toString()));
    }

    @Override
    public Void visitAssignment(AssignmentTree tree, Void none) {
        String target = tree.getVariable().toString();
        boolean made = method.equals(CONSTRUCTOR) && tree.getExpression() instanceof NewArrayTree;
        faultIf(arrays.contains(target) && !made, 4, tree);
        return super.visitAssignment(tree, none);
    }

    @Override
    public Void visitBinary(BinaryTree tree, Void none) {
        boolean ofArrays = arrays.contains(tree.getLeftOperand().toString())
            || arrays.contains(tree.getRightOperand().toString());
        faultIf(ofArrays, 4, tree);
        boolean divides = tree.getKind() == Kind.DIVIDE || tree.getKind() == Kind.REMAINDER;
        boolean looked = tree.getRightOperand().getKind() == Kind.INT_LITERAL
            || constants.contains(tree.getRightOperand().toString());
        faultIf(divides && !looked, 7, tree);
        return super.visitBinary(tree, none);
    }

    @Override
    public Void visitCompoundAssignment(CompoundAssignmentTree tree, Void none) {
        boolean divides = tree.getKind() == Kind.DIVIDE_ASSIGNMENT
            || tree.getKind() == Kind.REMAINDER_ASSIGNMENT;
        faultIf(divides, 7, tree);
        return super.visitCompoundAssignment(tree, none);
    }

    @Override
    public Void visitMemberSelect(MemberSelectTree tree, Void none) {
        String whole = tree.getExpression().toString();
        boolean length = arrays.contains(whole) && tree.getIdentifier().contentEquals("length");
        faultIf(!length, 3, tree);
        return super.visitMemberSelect(tree, none);
    }

    @Override
    public Void visitIdentifier(IdentifierTree tree, Void none) {
        String name = tree.getName().toString();
        boolean known = constants.contains(name) || fields.contains(name)
            || locals.contains(name) || calls.containsKey(name);
        faultIf(!known, 3, name);
        return null;
    }

    @Override
    public Void visitMethodInvocation(MethodInvocationTree tree, Void none) {
        String name = tree.getMethodSelect().toString();
        faultIf(!calls.containsKey(name), 3, tree);
        faultIf(argumentsAround > 0, 10, tree + " inside the arguments of another call");
        faultIf(method.equals(CONSTRUCTOR), 4, "the constructor calls " + name);
        calls.computeIfAbsent(method, own -> new HashSet<>()).add(name);
        scan(tree.getMethodSelect(), none);
        argumentsAround++;
        scan(tree.getArguments(), none);
        argumentsAround--;
        return null;
    }

    @Override
    public Void visitForLoop(ForLoopTree tree, Void none) {
        faultIf(!isCounted(tree), 8, "for (.. " + tree.getCondition() + " ..)");
        return super.visitForLoop(tree, none);
    }

    private static boolean isCounted(ForLoopTree tree) {
        if (tree.getInitializer().size() != 1 || tree.getUpdate().size() != 1
            || !(tree.getInitializer().get(0) instanceof VariableTree)
            || !(tree.getCondition() instanceof BinaryTree)) {
            return false;
        }
        String counter = ((VariableTree) tree.getInitializer().get(0)).getName().toString();
        BinaryTree condition = (BinaryTree) tree.getCondition();
        Kind kind = condition.getKind();
        String update = tree.getUpdate().get(0).getExpression().toString();
        boolean up = (kind == Kind.LESS_THAN || kind == Kind.LESS_THAN_EQUAL)
            && update.equals(counter + "++");
        boolean down = (kind == Kind.GREATER_THAN || kind == Kind.GREATER_THAN_EQUAL)
            && update.equals(counter + "--");
        Set<String> kept = names(condition.getRightOperand());
        kept.add(counter);
        kept.retainAll(assigned(tree.getStatement()));
        return condition.getLeftOperand().toString().equals(counter) && (up || down)
            && kept.isEmpty();
    }

    private static Set<String> names(Tree tree) {
        Set<String> names = new HashSet<>();
        new TreeScanner<Void, Void>() {
            @Override
            public Void visitIdentifier(IdentifierTree name, Void none) {
                names.add(name.getName().toString());
                return null;
            }

            @Override
            public Void visitMemberSelect(MemberSelectTree length, Void none) {
                // An array's length stays when its cells are assigned.
                return null;
            }
        }.scan(tree, null);
        return names;
    }

    private static Set<String> assigned(StatementTree body) {
        Set<String> assigned = new HashSet<>();
        new TreeScanner<Void, Void>() {
            @Override
            public Void visitAssignment(AssignmentTree tree, Void none) {
                assigned.add(base(tree.getVariable()));
                return super.visitAssignment(tree, none);
            }

            @Override
            public Void visitCompoundAssignment(CompoundAssignmentTree tree, Void none) {
                assigned.add(base(tree.getVariable()));
                return super.visitCompoundAssignment(tree, none);
            }

            @Override
            public Void visitUnary(UnaryTree tree, Void none) {
                String operator = tree.getKind().toString();
                if (operator.endsWith("INCREMENT") || operator.endsWith("DECREMENT")) {
                    assigned.add(base(tree.getExpression()));
                }
                return super.visitUnary(tree, none);
            }
        }.scan(body, null);
        return assigned;
    }

    private static String base(ExpressionTree target) {
        boolean cell = target instanceof ArrayAccessTree;
        return (cell ? ((ArrayAccessTree) target).getExpression() : target).toString();
    }

    /** Each round goes one call deeper; a run of calls deeper than all methods goes in a ring. */
    private void checkDepth() {
        Set<String> layer = new HashSet<>(calls.keySet());
        int depth = 0;
        while (!layer.isEmpty() && depth <= calls.size()) {
            Set<String> next = new HashSet<>();
            for (String name : layer) {
                next.addAll(calls.getOrDefault(name, Set.of()));
            }
            layer = next;
            depth++;
        }
        faultIf(depth > calls.size(), 8, "recursion");
        faultIf(depth > DEEPEST_CALL, 10, "calls go " + depth + " deep");
    }
}
