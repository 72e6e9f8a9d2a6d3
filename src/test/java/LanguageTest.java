import com.sun.source.tree.ArrayTypeTree;
import com.sun.source.tree.BlockTree;
import com.sun.source.tree.ClassTree;
import com.sun.source.tree.CompilationUnitTree;
import com.sun.source.tree.DoWhileLoopTree;
import com.sun.source.tree.ExpressionTree;
import com.sun.source.tree.ForLoopTree;
import com.sun.source.tree.IdentifierTree;
import com.sun.source.tree.LiteralTree;
import com.sun.source.tree.MemberSelectTree;
import com.sun.source.tree.MethodInvocationTree;
import com.sun.source.tree.MethodTree;
import com.sun.source.tree.NewArrayTree;
import com.sun.source.tree.PrimitiveTypeTree;
import com.sun.source.tree.Tree;
import com.sun.source.tree.TypeCastTree;
import com.sun.source.tree.VariableTree;
import com.sun.source.tree.WhileLoopTree;
import com.sun.source.util.JavacTask;
import com.sun.source.util.SourcePositions;
import com.sun.source.util.TreeScanner;
import com.sun.source.util.Trees;
import java.io.File;
import java.io.IOException;
import java.util.EnumSet;
import java.util.HashMap;
import java.util.HashSet;
import java.util.Map;
import java.util.Set;
import java.util.TreeMap;
import java.util.TreeSet;
import javax.lang.model.element.Modifier;
import javax.lang.model.type.TypeKind;
import javax.tools.JavaCompiler;
import javax.tools.StandardJavaFileManager;
import javax.tools.ToolProvider;

/** What of LANGUAGE.md the text of the class shows, by its rules' numbers; run from the project's folder. */
public final class LanguageTest extends TreeScanner<Void, Void> {
    private static final String SOURCE = "src/main/java/BlockSchedOpt.java";
    private static final int MOST_LINES = 60;
    private static final int MOST_FIELDS = 40;
    private static final int MOST_PARAMETERS = 7;
    private static final int MOST_DEPTH = 6;

    private static final Set<Tree.Kind> FORBIDDEN = EnumSet.of(
            Tree.Kind.THROW, Tree.Kind.TRY, Tree.Kind.CATCH, Tree.Kind.SYNCHRONIZED, Tree.Kind.ASSERT,
            Tree.Kind.INSTANCE_OF, Tree.Kind.LAMBDA_EXPRESSION, Tree.Kind.MEMBER_REFERENCE, Tree.Kind.NEW_CLASS,
            Tree.Kind.STRING_LITERAL, Tree.Kind.FLOAT_LITERAL, Tree.Kind.DOUBLE_LITERAL, Tree.Kind.NULL_LITERAL,
            Tree.Kind.IMPORT, Tree.Kind.PACKAGE, Tree.Kind.ANNOTATION, Tree.Kind.PARAMETERIZED_TYPE,
            Tree.Kind.INTERFACE, Tree.Kind.ENUM, Tree.Kind.RECORD, Tree.Kind.ANNOTATION_TYPE);
    private static final Set<TypeKind> TYPES = EnumSet.of(TypeKind.INT, TypeKind.LONG, TypeKind.SHORT,
            TypeKind.BYTE, TypeKind.CHAR, TypeKind.BOOLEAN, TypeKind.VOID);

    private final Due due = new Due();
    private final CompilationUnitTree unit;
    private final SourcePositions positions;
    private final Map<String, MethodTree> methods = new TreeMap<>();
    private final Map<String, Set<String>> calls = new HashMap<>();
    private final Set<String> constants = new HashSet<>();
    private final Set<String> arrays = new HashSet<>();
    private MethodTree inMethod;
    private int inArguments;

    private LanguageTest(CompilationUnitTree unit, SourcePositions positions) {
        this.unit = unit;
        this.positions = positions;
    }

    public static void main(String[] args) throws IOException {
        JavaCompiler compiler = ToolProvider.getSystemJavaCompiler();
        try (StandardJavaFileManager files = compiler.getStandardFileManager(null, null, null)) {
            JavacTask task = (JavacTask) compiler.getTask(null, files, null, null, null,
                    files.getJavaFileObjects(new File(SOURCE)));
            CompilationUnitTree unit = task.parse().iterator().next();
            LanguageTest test = new LanguageTest(unit, Trees.instance(task).getSourcePositions());
            test.judge();
            test.due.end();
        }
    }

    private void judge() {
        due.is("rule 1: classes in the file", unit.getTypeDecls().size(), 1);
        ClassTree all = (ClassTree) unit.getTypeDecls().get(0);
        for (Tree member : all.getMembers()) {
            take(member);
        }
        scan(unit, null);
        due.is("rule 1: the class extends or implements nothing",
                all.getExtendsClause() == null && all.getImplementsClause().isEmpty(), true);
        for (String name : methods.keySet()) {
            due.is("rules 8 and 10: calls below " + name, depth(name, new TreeSet<>()) <= MOST_DEPTH, true);
        }
    }

    private void take(Tree member) {
        if (member instanceof MethodTree method) {
            String name = method.getName().toString();
            broken("rule 1: a second method", method, methods.put(name, method) != null);
        } else if (member instanceof VariableTree field) {
            takeField(field);
        } else {
            broken("rules 1 and 5: a member that is no field or method", member, true);
        }
    }

    private void takeField(VariableTree field) {
        String name = field.getName().toString();
        Set<Modifier> modifiers = field.getModifiers().getFlags();
        boolean isArray = field.getType() instanceof ArrayTypeTree;
        if (modifiers.contains(Modifier.STATIC)) {
            constants.add(name);
            broken("rule 5: a static field that is no constant", field, isArray || !isWhole(field.getType())
                    || !modifiers.contains(Modifier.FINAL) || field.getInitializer() == null);
        } else {
            broken("rule 1: a field that is not private", field, !modifiers.contains(Modifier.PRIVATE));
        }
        if (isArray) {
            arrays.add(name);
            broken("rule 4: an array field that could be assigned to", field, !modifiers.contains(Modifier.FINAL));
            boolean made = field.getInitializer() instanceof NewArrayTree;
            broken("rule 4: an array not made with its field", field, !made);
        }
    }

    private static boolean isWhole(Tree type) {
        TypeKind kind = type instanceof PrimitiveTypeTree known ? known.getPrimitiveTypeKind() : TypeKind.ERROR;
        return kind == TypeKind.INT || kind == TypeKind.LONG;
    }

    private void broken(String rule, Tree at, boolean isBroken) {
        if (isBroken) {
            due.fail(rule + ", line " + line(positions.getStartPosition(unit, at)) + ": " + at);
        }
    }

    private long line(long position) {
        return unit.getLineMap().getLineNumber(position);
    }

    /** How many calls go one inside the other from this one on; fails on a call that comes back to itself. */
    private int depth(String name, Set<String> above) {
        if (above.contains(name)) {
            due.fail("rule 8: recursion through " + above);
            return 0;
        }
        Set<String> path = new TreeSet<>(above);
        path.add(name);
        int deepest = 0;
        for (String callee : calls.getOrDefault(name, Set.of())) {
            deepest = Math.max(deepest, depth(callee, path));
        }
        return 1 + deepest;
    }

    @Override
    public Void scan(Tree tree, Void nothing) {
        if (tree != null) {
            broken("rules 1, 2, 3 and 6: " + tree.getKind(), tree, FORBIDDEN.contains(tree.getKind()));
        }
        return super.scan(tree, nothing);
    }

    @Override
    public Void visitClass(ClassTree tree, Void nothing) {
        broken("rule 1: a nested class", tree, tree != unit.getTypeDecls().get(0));
        due.is("rule 10: fields beside the constants", tree.getMembers().stream()
                .filter(m -> m instanceof VariableTree v && !constants.contains(v.getName().toString()))
                .count() <= MOST_FIELDS, true);
        return super.visitClass(tree, nothing);
    }

    @Override
    public Void visitMethod(MethodTree tree, Void nothing) {
        Set<Modifier> modifiers = tree.getModifiers().getFlags();
        boolean open = modifiers.contains(Modifier.PUBLIC) || modifiers.contains(Modifier.PRIVATE);
        broken("rule 1: a method neither public nor private", tree, !open);
        broken("rule 4: a method that answers an array", tree, tree.getReturnType() instanceof ArrayTypeTree);
        broken("rule 6: throws", tree, !tree.getThrows().isEmpty());
        broken("rule 10: too many parameters", tree, tree.getParameters().size() > MOST_PARAMETERS);
        long lines = line(positions.getEndPosition(unit, tree)) - line(positions.getStartPosition(unit, tree)) + 1;
        broken("rule 10: a method of " + lines + " lines", tree, lines > MOST_LINES);
        inMethod = tree;
        super.visitMethod(tree, nothing);
        inMethod = null;
        return null;
    }

    @Override
    public Void visitMethodInvocation(MethodInvocationTree tree, Void nothing) {
        boolean implied = tree.toString().equals("super()");
        if (!implied) {
            String callee = tree.getMethodSelect().toString();
            boolean own = tree.getMethodSelect() instanceof IdentifierTree && methods.containsKey(callee);
            broken("rule 3: a call of what is not the class's own", tree, !own || inMethod == null);
            broken("rule 10: a call inside the arguments of another", tree, inArguments > 0);
            String caller = inMethod == null ? "" : inMethod.getName().toString();
            calls.computeIfAbsent(caller, name -> new TreeSet<>()).add(callee);
        }
        inArguments++;
        tree.getArguments().forEach(argument -> scan(argument, null));
        inArguments--;
        return null;
    }

    @Override
    public Void visitMemberSelect(MemberSelectTree tree, Void nothing) {
        String on = tree.getExpression().toString();
        boolean length = tree.getIdentifier().contentEquals("length") && arrays.contains(on);
        broken("rule 3: a name of something outside", tree, !on.equals("this") && !length);
        return super.visitMemberSelect(tree, nothing);
    }

    @Override
    public Void visitVariable(VariableTree tree, Void nothing) {
        broken("rule 2: a type that is not written", tree, tree.getType() == null);
        boolean isParameter = inMethod != null && inMethod.getParameters().contains(tree);
        broken("rule 4: a local variable that names an array", tree,
                inMethod != null && !isParameter && tree.getType() instanceof ArrayTypeTree);
        checkType(tree.getType());
        return super.visitVariable(tree, nothing);
    }

    @Override
    public Void visitTypeCast(TypeCastTree tree, Void nothing) {
        broken("rule 6: a cast of a reference", tree, !(tree.getType() instanceof PrimitiveTypeTree));
        return super.visitTypeCast(tree, nothing);
    }

    @Override
    public Void visitPrimitiveType(PrimitiveTypeTree tree, Void nothing) {
        broken("rule 2: a type outside", tree, !TYPES.contains(tree.getPrimitiveTypeKind()));
        return super.visitPrimitiveType(tree, nothing);
    }

    private void checkType(Tree type) {
        Tree element = type instanceof ArrayTypeTree array ? array.getType() : type;
        broken("rule 2: a type outside", type, !(element instanceof PrimitiveTypeTree));
    }

    @Override
    public Void visitNewArray(NewArrayTree tree, Void nothing) {
        broken("rule 4: an array made in a method", tree, inMethod != null);
        boolean oneLength = tree.getDimensions().size() == 1 && tree.getInitializers() == null;
        broken("rules 2 and 4: an array without one length", tree, !oneLength);
        if (oneLength) {
            ExpressionTree length = tree.getDimensions().get(0);
            broken("rule 4: a length that is no literal or constant", tree,
                    !(length instanceof LiteralTree) && !constants.contains(length.toString()));
        }
        return super.visitNewArray(tree, nothing);
    }

    @Override
    public Void visitForLoop(ForLoopTree tree, Void nothing) {
        broken("rule 8: a loop without a bound", tree, !hasBound(tree.getCondition()) || tree.getUpdate().isEmpty());
        return super.visitForLoop(tree, nothing);
    }

    @Override
    public Void visitWhileLoop(WhileLoopTree tree, Void nothing) {
        broken("rule 8: a loop without a bound", tree, !hasBound(tree.getCondition()));
        return super.visitWhileLoop(tree, nothing);
    }

    @Override
    public Void visitDoWhileLoop(DoWhileLoopTree tree, Void nothing) {
        broken("rule 8: a loop without a bound", tree, !hasBound(tree.getCondition()));
        return super.visitDoWhileLoop(tree, nothing);
    }

    /** A counter against a bound shows as one of the four comparisons, outside any call. */
    private static boolean hasBound(Tree condition) {
        return condition != null && condition.toString().replaceAll("\\w+\\([^()]*\\)", "").matches(".*[<>].*");
    }

    @Override
    public Void visitBlock(BlockTree tree, Void nothing) {
        broken("rule 5: an initialiser", tree, inMethod == null);
        return super.visitBlock(tree, nothing);
    }
}
