import com.sun.source.tree.AssertTree;
import com.sun.source.tree.ClassTree;
import com.sun.source.tree.CompilationUnitTree;
import com.sun.source.tree.DoWhileLoopTree;
import com.sun.source.tree.ExpressionTree;
import com.sun.source.tree.ForLoopTree;
import com.sun.source.tree.ImportTree;
import com.sun.source.tree.InstanceOfTree;
import com.sun.source.tree.LambdaExpressionTree;
import com.sun.source.tree.LineMap;
import com.sun.source.tree.LiteralTree;
import com.sun.source.tree.MemberReferenceTree;
import com.sun.source.tree.MemberSelectTree;
import com.sun.source.tree.MethodInvocationTree;
import com.sun.source.tree.MethodTree;
import com.sun.source.tree.NewArrayTree;
import com.sun.source.tree.NewClassTree;
import com.sun.source.tree.SynchronizedTree;
import com.sun.source.tree.ThrowTree;
import com.sun.source.tree.Tree;
import com.sun.source.tree.Tree.Kind;
import com.sun.source.tree.TryTree;
import com.sun.source.tree.TypeCastTree;
import com.sun.source.tree.VariableTree;
import com.sun.source.tree.WhileLoopTree;
import com.sun.source.util.JavacTask;
import com.sun.source.util.SourcePositions;
import com.sun.source.util.TreePathScanner;
import com.sun.source.util.TreeScanner;
import com.sun.source.util.Trees;
import java.io.IOException;
import java.nio.file.Path;
import java.util.HashMap;
import java.util.List;
import java.util.Map;
import java.util.Set;
import java.util.TreeSet;
import javax.lang.model.element.Modifier;
import javax.tools.JavaCompiler;
import javax.tools.StandardJavaFileManager;
import javax.tools.ToolProvider;

/** The rules of LANGUAGE.md that can be seen in the source, looked up in the compiler's own tree of it. */
public final class RulesTests extends TreePathScanner<Void, Void> {
    private static final Path SOURCE = Path.of("src/main/java/TestTreeRunner.java");
    private static final Set<String> TYPES = Set.of("int", "long", "short", "byte", "char", "boolean",
            "int[]", "long[]", "short[]", "byte[]", "char[]", "boolean[]");
    private static final Set<Kind> LITERALS =
            Set.of(Kind.INT_LITERAL, Kind.LONG_LITERAL, Kind.CHAR_LITERAL, Kind.BOOLEAN_LITERAL);
    private static final int MOST_PARAMETERS = 7;
    private static final int MOST_LINES = 60;
    private static final int MOST_DEEP = 6;

    private final CompilationUnitTree unit;
    private final SourcePositions positions;
    private final LineMap lines;
    private final Map<String, Set<String>> calls = new HashMap<>();
    private String method = "";
    private int looked = 0;
    private int wrong = 0;

    private RulesTests(CompilationUnitTree unit, SourcePositions positions) {
        this.unit = unit;
        this.positions = positions;
        this.lines = unit.getLineMap();
    }

    private void rule(int number, boolean holds, Tree where) {
        looked++;
        if (!holds) {
            wrong++;
            long line = lines.getLineNumber(positions.getStartPosition(unit, where));
            System.out.println("line " + line + ": not as rule " + number + " says: " + where);
        }
    }

    private boolean insideOf(Kind kind) {
        for (var at = getCurrentPath().getParentPath(); at != null; at = at.getParentPath()) {
            if (at.getLeaf().getKind() == kind) {
                return true;
            }
        }
        return false;
    }

    @Override
    public Void visitCompilationUnit(CompilationUnitTree tree, Void none) {
        rule(1, tree.getPackage() == null && tree.getTypeDecls().size() == 1, tree);
        return super.visitCompilationUnit(tree, none);
    }

    @Override
    public Void visitImport(ImportTree tree, Void none) {
        rule(3, false, tree);
        return null;
    }

    @Override
    public Void visitClass(ClassTree tree, Void none) {
        rule(1, tree.getKind() == Kind.CLASS && !insideOf(Kind.CLASS), tree);
        for (Tree member : tree.getMembers()) {
            // A static initialiser is a block among the members.
            rule(5, member.getKind() == Kind.VARIABLE || member.getKind() == Kind.METHOD, member);
            if (member instanceof MethodTree declared) {
                String name = declared.getName().toString();
                rule(1, calls.put(name, new TreeSet<>()) == null, declared);
            }
        }
        return super.visitClass(tree, none);
    }

    @Override
    public Void visitMethod(MethodTree tree, Void none) {
        rule(10, tree.getParameters().size() <= MOST_PARAMETERS, tree);
        long first = lines.getLineNumber(positions.getStartPosition(unit, tree));
        long last = lines.getLineNumber(positions.getEndPosition(unit, tree));
        rule(10, last - first < MOST_LINES, tree);
        Tree answer = tree.getReturnType();
        rule(4, answer == null || answer.getKind() == Kind.PRIMITIVE_TYPE, tree);
        rule(6, tree.getThrows().isEmpty() && !tree.getModifiers().getFlags().contains(Modifier.SYNCHRONIZED), tree);
        method = tree.getName().toString();
        super.visitMethod(tree, none);
        method = "";
        return null;
    }

    @Override
    public Void visitVariable(VariableTree tree, Void none) {
        rule(2, TYPES.contains(String.valueOf(tree.getType())), tree);
        boolean field = getCurrentPath().getParentPath().getLeaf().getKind() == Kind.CLASS;
        Set<Modifier> flags = tree.getModifiers().getFlags();
        if (field && tree.getType().getKind() == Kind.ARRAY_TYPE) {
            // A final field is one that no method assigns to.
            rule(4, flags.contains(Modifier.FINAL), tree);
        }
        if (flags.contains(Modifier.STATIC)) {
            String type = tree.getType().toString();
            rule(5, flags.contains(Modifier.FINAL) && (type.equals("int") || type.equals("long")), tree);
        }
        return super.visitVariable(tree, none);
    }

    @Override
    public Void visitNewArray(NewArrayTree tree, Void none) {
        Tree holder = getCurrentPath().getParentPath().getLeaf();
        Tree aboveHolder = getCurrentPath().getParentPath().getParentPath().getLeaf();
        rule(4, holder.getKind() == Kind.VARIABLE && aboveHolder.getKind() == Kind.CLASS, tree);
        rule(4, tree.getInitializers() == null && tree.getDimensions().size() == 1, tree);
        rule(4, tree.getDimensions().toString().matches("[A-Z_]+|[1-9][0-9]*"), tree);
        return super.visitNewArray(tree, none);
    }

    @Override
    public Void visitNewClass(NewClassTree tree, Void none) {
        rule(4, false, tree);
        return null;
    }

    @Override
    public Void visitLiteral(LiteralTree tree, Void none) {
        rule(2, LITERALS.contains(tree.getKind()), tree);
        return null;
    }

    @Override
    public Void visitMemberSelect(MemberSelectTree tree, Void none) {
        rule(3, false, tree);
        return null;
    }

    @Override
    public Void visitMethodInvocation(MethodInvocationTree tree, Void none) {
        String called = tree.getMethodSelect().toString();
        rule(3, calls.containsKey(called), tree);
        rule(10, !insideOf(Kind.METHOD_INVOCATION), tree);
        calls.getOrDefault(method, new TreeSet<>()).add(called);
        return super.visitMethodInvocation(tree, none);
    }

    @Override
    public Void visitTypeCast(TypeCastTree tree, Void none) {
        rule(6, tree.getType().getKind() == Kind.PRIMITIVE_TYPE, tree);
        return super.visitTypeCast(tree, none);
    }

    @Override
    public Void visitThrow(ThrowTree tree, Void none) {
        rule(6, false, tree);
        return null;
    }

    @Override
    public Void visitTry(TryTree tree, Void none) {
        rule(6, false, tree);
        return null;
    }

    @Override
    public Void visitSynchronized(SynchronizedTree tree, Void none) {
        rule(6, false, tree);
        return null;
    }

    @Override
    public Void visitAssert(AssertTree tree, Void none) {
        rule(6, false, tree);
        return null;
    }

    @Override
    public Void visitInstanceOf(InstanceOfTree tree, Void none) {
        rule(6, false, tree);
        return null;
    }

    @Override
    public Void visitLambdaExpression(LambdaExpressionTree tree, Void none) {
        rule(6, false, tree);
        return null;
    }

    @Override
    public Void visitMemberReference(MemberReferenceTree tree, Void none) {
        rule(6, false, tree);
        return null;
    }

    /** A counter against a bound: the condition compares by size something that the loop's own lines count on. */
    private void loopEnds(Tree loop, ExpressionTree condition) {
        boolean[] compares = {false};
        boolean[] counts = {false};
        Set<Kind> bySize = Set.of(Kind.LESS_THAN, Kind.GREATER_THAN, Kind.LESS_THAN_EQUAL, Kind.GREATER_THAN_EQUAL);
        Set<Kind> byOne = Set.of(Kind.POSTFIX_INCREMENT, Kind.POSTFIX_DECREMENT);
        TreeScanner<Void, Void> look = new TreeScanner<>() {
            @Override
            public Void scan(Tree tree, Void none) {
                compares[0] |= tree != null && bySize.contains(tree.getKind());
                counts[0] |= tree != null && byOne.contains(tree.getKind());
                return super.scan(tree, none);
            }
        };
        look.scan(condition, null);
        boolean compared = compares[0];
        look.scan(loop, null);
        rule(8, compared && counts[0], loop);
    }

    @Override
    public Void visitForLoop(ForLoopTree tree, Void none) {
        loopEnds(tree, tree.getCondition());
        return super.visitForLoop(tree, none);
    }

    @Override
    public Void visitWhileLoop(WhileLoopTree tree, Void none) {
        loopEnds(tree, tree.getCondition());
        return super.visitWhileLoop(tree, none);
    }

    @Override
    public Void visitDoWhileLoop(DoWhileLoopTree tree, Void none) {
        loopEnds(tree, tree.getCondition());
        return super.visitDoWhileLoop(tree, none);
    }

    /** How deep the calls of a method go, itself being one deep; a recursion comes out too deep. */
    private int depth(String name, int above) {
        int deepest = above + 1;
        if (deepest <= MOST_DEEP) {
            for (String called : calls.getOrDefault(name, Set.of())) {
                deepest = Math.max(deepest, depth(called, above + 1));
            }
        }
        return deepest;
    }

    private void callsAreShallow() {
        for (String name : calls.keySet()) {
            looked++;
            if (depth(name, 0) > MOST_DEEP) {
                wrong++;
                System.out.println("not as rules 8 and 10 say: the calls of " + name + " go too deep, or round");
            }
        }
    }

    public static void main(String[] args) throws IOException {
        JavaCompiler compiler = ToolProvider.getSystemJavaCompiler();
        try (StandardJavaFileManager files = compiler.getStandardFileManager(null, null, null)) {
            JavacTask task = (JavacTask) compiler.getTask(null, files, null, List.of(), null, files.getJavaFileObjects(SOURCE));
            CompilationUnitTree unit = task.parse().iterator().next();
            RulesTests tests = new RulesTests(unit, Trees.instance(task).getSourcePositions());
            tests.scan(unit, null);
            tests.callsAreShallow();
            System.out.println(tests.looked + " places looked at, " + tests.wrong + " not as the rules say");
            if (tests.wrong != 0) {
                System.exit(1);
            }
        }
    }
}
