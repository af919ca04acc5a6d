import com.sun.source.tree.ArrayTypeTree;
import com.sun.source.tree.AssertTree;
import com.sun.source.tree.AssignmentTree;
import com.sun.source.tree.BlockTree;
import com.sun.source.tree.ClassTree;
import com.sun.source.tree.CompilationUnitTree;
import com.sun.source.tree.ExpressionTree;
import com.sun.source.tree.IdentifierTree;
import com.sun.source.tree.InstanceOfTree;
import com.sun.source.tree.LambdaExpressionTree;
import com.sun.source.tree.LiteralTree;
import com.sun.source.tree.MemberReferenceTree;
import com.sun.source.tree.MemberSelectTree;
import com.sun.source.tree.MethodInvocationTree;
import com.sun.source.tree.MethodTree;
import com.sun.source.tree.NewArrayTree;
import com.sun.source.tree.NewClassTree;
import com.sun.source.tree.PrimitiveTypeTree;
import com.sun.source.tree.SynchronizedTree;
import com.sun.source.tree.ThrowTree;
import com.sun.source.tree.Tree;
import com.sun.source.tree.TryTree;
import com.sun.source.tree.TypeCastTree;
import com.sun.source.tree.VariableTree;
import com.sun.source.util.JavacTask;
import com.sun.source.util.SourcePositions;
import com.sun.source.util.TreePathScanner;
import com.sun.source.util.TreeScanner;
import com.sun.source.util.Trees;
import java.nio.file.Path;
import java.util.HashSet;
import java.util.Map;
import java.util.Set;
import java.util.TreeMap;
import java.util.TreeSet;
import javax.lang.model.element.Modifier;
import javax.lang.model.type.TypeKind;
import javax.tools.JavaCompiler;
import javax.tools.StandardJavaFileManager;
import javax.tools.ToolProvider;

/**
 * The rules of ../shared/LANGUAGE.md that can be seen in the syntax tree of the class. Rule 7, the bounds of the
 * loops in rule 8, and in rule 4 the value of a length and the comparing of arrays are not looked at; rule 11
 * follows from rule 3. Where it is easier, the test asks for more than the rule: arrays are made in the fields'
 * initialisers alone, and there is no initialiser block.
 */
final class LanguageTest extends TreePathScanner<Void, Void> {
    private static final Path SOURCE = Path.of("src/main/java/NetMatcher.java");
    private static final Set<TypeKind> NUMBERS = Set.of(
        TypeKind.INT, TypeKind.LONG, TypeKind.SHORT, TypeKind.BYTE, TypeKind.CHAR, TypeKind.BOOLEAN);
    private static final Set<Tree.Kind> LITERALS = Set.of(
        Tree.Kind.INT_LITERAL, Tree.Kind.LONG_LITERAL, Tree.Kind.CHAR_LITERAL, Tree.Kind.BOOLEAN_LITERAL);
    private static final Due due = new Due();

    private final CompilationUnitTree unit;
    private final SourcePositions positions;
    private final Set<String> declared = new HashSet<>(Set.of("this"));
    private final Set<String> constants = new HashSet<>();
    private final Set<String> arrays = new HashSet<>();
    private final Map<String, Set<String>> calls = new TreeMap<>();
    private String method = "";
    private int fields;

    private LanguageTest(CompilationUnitTree unit, SourcePositions positions) {
        this.unit = unit;
        this.positions = positions;
    }

    public static void main(String[] args) throws Exception {
        JavaCompiler compiler = ToolProvider.getSystemJavaCompiler();
        try (StandardJavaFileManager files = compiler.getStandardFileManager(null, null, null)) {
            JavacTask task = (JavacTask) compiler.getTask(null, files, null, null, null, files.getJavaFileObjects(SOURCE));
            CompilationUnitTree unit = task.parse().iterator().next();
            LanguageTest test = new LanguageTest(unit, Trees.instance(task).getSourcePositions());
            test.collectNames();
            test.checkUnit();
            test.scan(unit, null);
            test.checkCalls();
        }
        due.end();
    }

    private long line(Tree tree) {
        return unit.getLineMap().getLineNumber(positions.getStartPosition(unit, tree));
    }

    private long lastLine(Tree tree) {
        return unit.getLineMap().getLineNumber(positions.getEndPosition(unit, tree));
    }

    private void rule(int number, Tree at, String what, boolean kept) {
        due.is("rule " + number + ", line " + line(at) + ", " + what + ": kept", kept, true);
    }

    /** Names are used before their line, so they are gathered first. */
    private void collectNames() {
        new TreeScanner<Void, Void>() {
            @Override
            public Void visitVariable(VariableTree tree, Void none) {
                declared.add(tree.getName().toString());
                if (tree.getModifiers().getFlags().contains(Modifier.STATIC)) {
                    constants.add(tree.getName().toString());
                }
                if (tree.getType() instanceof ArrayTypeTree) {
                    arrays.add(tree.getName().toString());
                }
                return super.visitVariable(tree, none);
            }

            @Override
            public Void visitMethod(MethodTree tree, Void none) {
                calls.put(tree.getName().toString(), new TreeSet<>());
                return super.visitMethod(tree, none);
            }
        }.scan(unit, null);
    }

    private void checkUnit() {
        rule(1, unit, "no package line", unit.getPackage() == null);
        rule(1, unit, "one class", unit.getTypeDecls().size() == 1);
        rule(3, unit, "nothing imported", unit.getImports().isEmpty());
    }

    @Override
    public Void visitClass(ClassTree tree, Void none) {
        rule(1, tree, "no nested class", getCurrentPath().getParentPath().getLeaf() == unit);
        Set<String> open = new HashSet<>();
        Set<String> hidden = new HashSet<>();
        for (Tree member : tree.getMembers()) {
            if (member instanceof MethodTree) {
                boolean isPrivate = ((MethodTree) member).getModifiers().getFlags().contains(Modifier.PRIVATE);
                (isPrivate ? hidden : open).add(((MethodTree) member).getName().toString());
            }
            rule(5, member, "no static initialiser", !(member instanceof BlockTree));
        }
        hidden.retainAll(open);
        rule(1, tree, "private methods with a public one's name " + hidden, hidden.isEmpty());
        super.visitClass(tree, none);
        rule(10, tree, fields + " fields, at most 40", fields <= 40);
        return null;
    }

    private static boolean isNumber(Tree type) {
        return type instanceof PrimitiveTypeTree && NUMBERS.contains(((PrimitiveTypeTree) type).getPrimitiveTypeKind());
    }

    private static boolean isVoid(Tree type) {
        return type instanceof PrimitiveTypeTree && ((PrimitiveTypeTree) type).getPrimitiveTypeKind() == TypeKind.VOID;
    }

    @Override
    public Void visitVariable(VariableTree tree, Void none) {
        Tree type = tree.getType();
        boolean isArray = type instanceof ArrayTypeTree && isNumber(((ArrayTypeTree) type).getType());
        rule(2, tree, "type of " + tree.getName(), isNumber(type) || isArray);
        Tree owner = getCurrentPath().getParentPath().getLeaf();
        Set<Modifier> flags = tree.getModifiers().getFlags();
        if (flags.contains(Modifier.STATIC)) {
            String text = String.valueOf(type);
            rule(5, tree, "static field " + tree.getName(), flags.contains(Modifier.FINAL)
                && (text.equals("int") || text.equals("long")) && isConstant(tree.getInitializer()));
        } else if (owner instanceof ClassTree) {
            fields++;
        }
        rule(4, tree, "array " + tree.getName() + " is a final field or a parameter", !isArray
            || owner instanceof MethodTree || owner instanceof ClassTree && flags.contains(Modifier.FINAL));
        return super.visitVariable(tree, none);
    }

    private boolean isConstant(ExpressionTree value) {
        boolean[] constant = {value != null};
        new TreeScanner<Void, Void>() {
            @Override
            public Void visitIdentifier(IdentifierTree tree, Void none) {
                constant[0] &= constants.contains(tree.getName().toString());
                return null;
            }

            @Override
            public Void visitMethodInvocation(MethodInvocationTree tree, Void none) {
                constant[0] = false;
                return null;
            }

            @Override
            public Void visitNewArray(NewArrayTree tree, Void none) {
                constant[0] = false;
                return null;
            }
        }.scan(value, null);
        return constant[0];
    }

    @Override
    public Void visitMethod(MethodTree tree, Void none) {
        method = tree.getName().toString();
        Tree type = tree.getReturnType();
        rule(2, tree, "answer of " + method, type == null || isVoid(type) || isNumber(type));
        rule(6, tree, method + " is not synchronized", !tree.getModifiers().getFlags().contains(Modifier.SYNCHRONIZED));
        rule(6, tree, method + " throws nothing", tree.getThrows().isEmpty());
        rule(10, tree, "parameters of " + method, tree.getParameters().size() <= 7);
        long lines = lastLine(tree) - line(tree) + 1;
        rule(10, tree, method + " has " + lines + " lines, at most 60", lines <= 60);
        super.visitMethod(tree, none);
        method = "";
        return null;
    }

    @Override
    public Void visitLiteral(LiteralTree tree, Void none) {
        rule(2, tree, "literal " + tree, LITERALS.contains(tree.getKind()));
        return super.visitLiteral(tree, none);
    }

    @Override
    public Void visitIdentifier(IdentifierTree tree, Void none) {
        String name = tree.getName().toString();
        rule(3, tree, name + " is the class's own", declared.contains(name) || calls.containsKey(name));
        return super.visitIdentifier(tree, none);
    }

    @Override
    public Void visitMemberSelect(MemberSelectTree tree, Void none) {
        boolean own = tree.getExpression().toString().equals("this");
        rule(3, tree, tree + " is the class's own", own || tree.getIdentifier().contentEquals("length"));
        return super.visitMemberSelect(tree, none);
    }

    @Override
    public Void visitMethodInvocation(MethodInvocationTree tree, Void none) {
        String called = tree.getMethodSelect().toString().replace("this.", "");
        rule(3, tree, called + " is the class's own method", calls.containsKey(called));
        if (!method.isEmpty()) {
            calls.get(method).add(called);
        }
        boolean[] plain = {true};
        new TreeScanner<Void, Void>() {
            @Override
            public Void visitMethodInvocation(MethodInvocationTree inner, Void nothing) {
                plain[0] = false;
                return null;
            }
        }.scan(tree.getArguments(), null);
        rule(10, tree, "no call in the arguments of " + called, plain[0]);
        return super.visitMethodInvocation(tree, none);
    }

    @Override
    public Void visitNewArray(NewArrayTree tree, Void none) {
        Tree holder = getCurrentPath().getParentPath().getLeaf();
        Tree owner = getCurrentPath().getParentPath().getParentPath().getLeaf();
        rule(4, tree, "an array is made in a field's initialiser",
            holder instanceof VariableTree && owner instanceof ClassTree);
        rule(4, tree, "its length is a constant", tree.getInitializers() == null
            && tree.getDimensions().size() == 1 && isConstant(tree.getDimensions().get(0)));
        return super.visitNewArray(tree, none);
    }

    @Override
    public Void visitAssignment(AssignmentTree tree, Void none) {
        rule(4, tree, "no array's name is assigned to", !arrays.contains(tree.getVariable().toString().replace("this.", "")));
        return super.visitAssignment(tree, none);
    }

    @Override
    public Void visitNewClass(NewClassTree tree, Void none) {
        rule(4, tree, "no object is made", false);
        return super.visitNewClass(tree, none);
    }

    @Override
    public Void visitTypeCast(TypeCastTree tree, Void none) {
        rule(6, tree, "cast between number types", isNumber(tree.getType()));
        return super.visitTypeCast(tree, none);
    }

    @Override
    public Void visitThrow(ThrowTree tree, Void none) {
        return refuse(tree, "throw");
    }

    @Override
    public Void visitTry(TryTree tree, Void none) {
        return refuse(tree, "try");
    }

    @Override
    public Void visitSynchronized(SynchronizedTree tree, Void none) {
        return refuse(tree, "synchronized");
    }

    @Override
    public Void visitAssert(AssertTree tree, Void none) {
        return refuse(tree, "assert");
    }

    @Override
    public Void visitInstanceOf(InstanceOfTree tree, Void none) {
        return refuse(tree, "instanceof");
    }

    @Override
    public Void visitLambdaExpression(LambdaExpressionTree tree, Void none) {
        return refuse(tree, "lambda");
    }

    @Override
    public Void visitMemberReference(MemberReferenceTree tree, Void none) {
        return refuse(tree, "method reference");
    }

    private Void refuse(Tree tree, String what) {
        rule(6, tree, "no " + what, false);
        return null;
    }

    /** A method that calls in a circle is never deep enough to end within as many steps as there are methods. */
    private void checkCalls() {
        for (String start : calls.keySet()) {
            Set<String> reached = new TreeSet<>(Set.of(start));
            int depth = 0;
            while (!reached.isEmpty() && depth <= calls.size()) {
                Set<String> next = new TreeSet<>();
                for (String caller : reached) {
                    next.addAll(calls.getOrDefault(caller, Set.of()));
                }
                reached = next;
                depth++;
            }
            due.is("rule 8, " + start + " ends without recursion: kept", reached.isEmpty(), true);
            due.is("rule 10, calls from " + start + " go " + depth + " deep, at most 6: kept", depth <= 6, true);
        }
    }
}
