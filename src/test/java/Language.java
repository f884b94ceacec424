import com.sun.source.tree.ArrayAccessTree;
import com.sun.source.tree.ArrayTypeTree;
import com.sun.source.tree.ClassTree;
import com.sun.source.tree.CompilationUnitTree;
import com.sun.source.tree.DoWhileLoopTree;
import com.sun.source.tree.ForLoopTree;
import com.sun.source.tree.IdentifierTree;
import com.sun.source.tree.MemberSelectTree;
import com.sun.source.tree.MethodInvocationTree;
import com.sun.source.tree.MethodTree;
import com.sun.source.tree.NewArrayTree;
import com.sun.source.tree.PrimitiveTypeTree;
import com.sun.source.tree.Tree;
import com.sun.source.tree.TypeCastTree;
import com.sun.source.tree.VariableTree;
import com.sun.source.tree.WhileLoopTree;
import com.sun.source.util.JavacTask;
import com.sun.source.util.SourcePositions;
import com.sun.source.util.TreePathScanner;
import com.sun.source.util.Trees;
import java.io.IOException;
import java.net.URI;
import java.util.ArrayList;
import java.util.EnumSet;
import java.util.HashMap;
import java.util.List;
import java.util.Map;
import java.util.Set;
import java.util.TreeSet;
import javax.lang.model.element.Modifier;
import javax.lang.model.type.TypeKind;
import javax.tools.JavaCompiler;
import javax.tools.JavaFileObject;
import javax.tools.SimpleJavaFileObject;
import javax.tools.ToolProvider;

/**
 * Holds a source against the rules of LANGUAGE.md that its syntax shows. It is stricter than rule 4 where that makes the
 * check plain: arrays are made in fields' initialisers alone and used only by their cells. Rules 7 and 8 (no call throws,
 * every loop ends) are seen here only as far as recursion and loops without a condition go.
 */
final class Language extends TreePathScanner<Void, Void> {
    private static final int MOST_PARAMETERS = 7;
    private static final int MOST_LINES = 60;
    private static final int MOST_DEPTH = 6;
    private static final int MOST_FIELDS = 40;

    /** What rules 2, 6 and 9 leave of the language; whatever is not named here is a fault. */
    private static final Set<Tree.Kind> LEFT = EnumSet.of(
            Tree.Kind.COMPILATION_UNIT, Tree.Kind.CLASS, Tree.Kind.METHOD, Tree.Kind.VARIABLE, Tree.Kind.MODIFIERS,
            Tree.Kind.PRIMITIVE_TYPE, Tree.Kind.ARRAY_TYPE, Tree.Kind.NEW_ARRAY, Tree.Kind.ARRAY_ACCESS,
            Tree.Kind.INT_LITERAL, Tree.Kind.LONG_LITERAL, Tree.Kind.CHAR_LITERAL, Tree.Kind.BOOLEAN_LITERAL,
            Tree.Kind.IDENTIFIER, Tree.Kind.MEMBER_SELECT, Tree.Kind.METHOD_INVOCATION, Tree.Kind.TYPE_CAST,
            Tree.Kind.PARENTHESIZED, Tree.Kind.CONDITIONAL_EXPRESSION, Tree.Kind.BLOCK, Tree.Kind.EMPTY_STATEMENT,
            Tree.Kind.EXPRESSION_STATEMENT, Tree.Kind.IF, Tree.Kind.FOR_LOOP, Tree.Kind.WHILE_LOOP,
            Tree.Kind.DO_WHILE_LOOP, Tree.Kind.SWITCH, Tree.Kind.CASE, Tree.Kind.BREAK,
            Tree.Kind.CONTINUE, Tree.Kind.LABELED_STATEMENT, Tree.Kind.RETURN,
            Tree.Kind.ASSIGNMENT, Tree.Kind.PLUS_ASSIGNMENT, Tree.Kind.MINUS_ASSIGNMENT, Tree.Kind.MULTIPLY_ASSIGNMENT,
            Tree.Kind.DIVIDE_ASSIGNMENT, Tree.Kind.REMAINDER_ASSIGNMENT, Tree.Kind.AND_ASSIGNMENT,
            Tree.Kind.OR_ASSIGNMENT, Tree.Kind.XOR_ASSIGNMENT, Tree.Kind.LEFT_SHIFT_ASSIGNMENT,
            Tree.Kind.RIGHT_SHIFT_ASSIGNMENT, Tree.Kind.UNSIGNED_RIGHT_SHIFT_ASSIGNMENT,
            Tree.Kind.PLUS, Tree.Kind.MINUS, Tree.Kind.MULTIPLY, Tree.Kind.DIVIDE, Tree.Kind.REMAINDER,
            Tree.Kind.AND, Tree.Kind.OR, Tree.Kind.XOR, Tree.Kind.LEFT_SHIFT, Tree.Kind.RIGHT_SHIFT,
            Tree.Kind.UNSIGNED_RIGHT_SHIFT, Tree.Kind.EQUAL_TO, Tree.Kind.NOT_EQUAL_TO, Tree.Kind.LESS_THAN,
            Tree.Kind.LESS_THAN_EQUAL, Tree.Kind.GREATER_THAN, Tree.Kind.GREATER_THAN_EQUAL,
            Tree.Kind.CONDITIONAL_AND, Tree.Kind.CONDITIONAL_OR, Tree.Kind.LOGICAL_COMPLEMENT,
            Tree.Kind.BITWISE_COMPLEMENT, Tree.Kind.UNARY_PLUS, Tree.Kind.UNARY_MINUS,
            Tree.Kind.PREFIX_INCREMENT, Tree.Kind.PREFIX_DECREMENT, Tree.Kind.POSTFIX_INCREMENT,
            Tree.Kind.POSTFIX_DECREMENT);

    private static final Set<TypeKind> NUMBERS = EnumSet.of(
            TypeKind.INT, TypeKind.LONG, TypeKind.SHORT, TypeKind.BYTE, TypeKind.CHAR, TypeKind.BOOLEAN);

    private final List<String> faults = new ArrayList<>();
    private final Map<String, Set<String>> calls = new HashMap<>();
    private final Set<String> constants = new TreeSet<>();
    private final Set<String> arrays = new TreeSet<>();
    private final SourcePositions positions;
    private final CompilationUnitTree unit;
    private String caller = "";

    private Language(CompilationUnitTree unit, SourcePositions positions) {
        this.unit = unit;
        this.positions = positions;
    }

    /** The faults of a source, each beginning with "rule n: ". */
    static List<String> faultsOf(String source) throws IOException {
        JavaFileObject file = new SimpleJavaFileObject(URI.create("string:///HybridTables.java"),
                JavaFileObject.Kind.SOURCE) {
            @Override
            public CharSequence getCharContent(boolean ignoreErrors) {
                return source;
            }
        };
        JavaCompiler compiler = ToolProvider.getSystemJavaCompiler();
        JavacTask task = (JavacTask) compiler.getTask(null, null, null, null, null, List.of(file));
        CompilationUnitTree unit = task.parse().iterator().next();
        Language rules = new Language(unit, Trees.instance(task).getSourcePositions());
        rules.checkUnit();
        return rules.faults;
    }

    private void fault(int rule, String text) {
        faults.add("rule " + rule + ": " + text);
    }

    private void checkUnit() {
        if (unit.getPackage() != null || unit.getTypeDecls().size() != 1) {
            fault(1, "not one class without a package line");
        }
        if (!unit.getImports().isEmpty()) {
            fault(3, "an import");
        }
        for (Tree type : unit.getTypeDecls()) {
            if (type instanceof ClassTree) {
                gatherNames((ClassTree) type);
                checkFields((ClassTree) type);
            }
        }
        scan(unit, null);
        for (String method : calls.keySet()) {
            if (depthFrom(method, MOST_DEPTH + 1) > MOST_DEPTH) {
                fault(reaches(method, method) ? 8 : 10, "calls from " + method + " return to it or go too deep");
            }
        }
    }

    private void gatherNames(ClassTree type) {
        for (Tree member : type.getMembers()) {
            if (member instanceof MethodTree) {
                calls.put(((MethodTree) member).getName().toString(), new TreeSet<>());
            } else if (member instanceof VariableTree) {
                VariableTree field = (VariableTree) member;
                if (isStatic(field)) {
                    constants.add(field.getName().toString());
                } else if (field.getType() instanceof ArrayTypeTree) {
                    arrays.add(field.getName().toString());
                }
            }
        }
    }

    private void checkFields(ClassTree type) {
        int fields = 0;
        for (Tree member : type.getMembers()) {
            if (member.getKind() == Tree.Kind.BLOCK) {
                fault(5, "an initialiser block");
            } else if (member instanceof VariableTree) {
                VariableTree field = (VariableTree) member;
                fields += isStatic(field) ? 0 : 1;
                checkField(field);
            }
        }
        if (fields > MOST_FIELDS) {
            fault(10, fields + " fields");
        }
    }

    private void checkField(VariableTree field) {
        boolean isFinal = field.getModifiers().getFlags().contains(Modifier.FINAL);
        String type = field.getType().toString();
        if (isStatic(field) && !(isFinal && (type.equals("int") || type.equals("long")))) {
            fault(5, "static " + field.getName() + " is no constant of int or long");
        }
        if (arrays.contains(field.getName().toString()) && !(isFinal && field.getInitializer() instanceof NewArrayTree)) {
            fault(4, "array " + field.getName() + " is not final and made in its initialiser");
        }
    }

    private static boolean isStatic(VariableTree field) {
        return field.getModifiers().getFlags().contains(Modifier.STATIC);
    }

    /** The most methods on one way down from here, this one counted; no more than bound is looked at. */
    private int depthFrom(String method, int bound) {
        int most = 0;
        if (bound > 1) {
            for (String called : calls.getOrDefault(method, Set.of())) {
                most = Math.max(most, depthFrom(called, bound - 1));
            }
        }
        return most + 1;
    }

    private boolean reaches(String from, String goal) {
        Set<String> seen = new TreeSet<>(calls.get(from));
        for (int size = -1; size != seen.size();) {
            size = seen.size();
            for (String called : List.copyOf(seen)) {
                seen.addAll(calls.getOrDefault(called, Set.of()));
            }
        }
        return seen.contains(goal);
    }

    @Override
    public Void scan(Tree tree, Void none) {
        if (tree != null && !LEFT.contains(tree.getKind())) {
            fault(6, tree.getKind() + " (" + tree + ")");
        }
        return super.scan(tree, none);
    }

    @Override
    public Void visitClass(ClassTree type, Void none) {
        if (getCurrentPath().getParentPath().getLeaf() != unit) {
            fault(1, "nested " + type.getSimpleName());
        }
        return super.visitClass(type, none);
    }

    @Override
    public Void visitMethod(MethodTree method, Void none) {
        caller = method.getName().toString();
        if (method.getParameters().size() > MOST_PARAMETERS) {
            fault(10, caller + " has too many parameters");
        }
        long first = unit.getLineMap().getLineNumber(positions.getStartPosition(unit, method));
        long last = unit.getLineMap().getLineNumber(positions.getEndPosition(unit, method));
        if (last - first + 1 > MOST_LINES) {
            fault(10, caller + " is too long");
        }
        if (method.getReturnType() instanceof ArrayTypeTree) {
            fault(4, caller + " answers an array");
        } else if (method.getReturnType() != null && !method.getReturnType().toString().equals("void")) {
            checkType(method.getReturnType());
        }
        super.visitMethod(method, none);
        caller = "";
        return null;
    }

    @Override
    public Void visitVariable(VariableTree variable, Void none) {
        checkType(variable.getType());
        return super.visitVariable(variable, none);
    }

    private void checkType(Tree type) {
        Tree number = type instanceof ArrayTypeTree ? ((ArrayTypeTree) type).getType() : type;
        boolean known = number instanceof PrimitiveTypeTree
                && NUMBERS.contains(((PrimitiveTypeTree) number).getPrimitiveTypeKind());
        if (!known) {
            fault(2, "type " + type);
        }
    }

    @Override
    public Void visitTypeCast(TypeCastTree cast, Void none) {
        checkType(cast.getType());
        if (cast.getType() instanceof ArrayTypeTree) {
            fault(6, "cast to " + cast.getType());
        }
        return super.visitTypeCast(cast, none);
    }

    @Override
    public Void visitNewArray(NewArrayTree made, Void none) {
        if (!caller.isEmpty()) {
            fault(4, "an array made in " + caller);
        }
        boolean constantLength = made.getInitializers() == null && made.getDimensions().size() == 1
                && (made.getDimensions().get(0).getKind() == Tree.Kind.INT_LITERAL
                        || constants.contains(made.getDimensions().get(0).toString()));
        if (!constantLength || made.getDimensions().get(0).toString().equals("0")) {
            fault(4, "the length in " + made);
        }
        return super.visitNewArray(made, none);
    }

    @Override
    public Void visitIdentifier(IdentifierTree name, Void none) {
        Tree user = getCurrentPath().getParentPath().getLeaf();
        boolean asCells = user instanceof ArrayAccessTree && ((ArrayAccessTree) user).getExpression() == name;
        if (arrays.contains(name.toString()) && !asCells) {
            fault(4, "array " + name + " is used other than by its cells");
        }
        return super.visitIdentifier(name, none);
    }

    @Override
    public Void visitMemberSelect(MemberSelectTree select, Void none) {
        fault(3, "member of another object or class: " + select);
        return super.visitMemberSelect(select, none);
    }

    @Override
    public Void visitMethodInvocation(MethodInvocationTree call, Void none) {
        String called = call.getMethodSelect().toString();
        if (!calls.containsKey(called)) {
            fault(3, "call of " + called + ", which is not a method of the class");
        }
        if (caller.isEmpty()) {
            fault(10, "call of " + called + " in a field's initialiser");
        } else {
            calls.get(caller).add(called);
        }
        for (Tree up : getCurrentPath().getParentPath()) {
            if (up instanceof MethodInvocationTree) {
                fault(10, called + " is called inside the arguments of another call");
            }
        }
        return super.visitMethodInvocation(call, none);
    }

    @Override
    public Void visitForLoop(ForLoopTree loop, Void none) {
        if (loop.getCondition() == null) {
            fault(8, "for without a condition in " + caller);
        }
        return super.visitForLoop(loop, none);
    }

    @Override
    public Void visitWhileLoop(WhileLoopTree loop, Void none) {
        checkEnd(loop.getCondition());
        return super.visitWhileLoop(loop, none);
    }

    @Override
    public Void visitDoWhileLoop(DoWhileLoopTree loop, Void none) {
        checkEnd(loop.getCondition());
        return super.visitDoWhileLoop(loop, none);
    }

    private void checkEnd(Tree condition) {
        if (condition.toString().equals("(true)")) {
            fault(8, "loop without an end in " + caller);
        }
    }
}
