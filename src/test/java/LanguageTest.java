import com.sun.source.tree.ArrayAccessTree;
import com.sun.source.tree.ArrayTypeTree;
import com.sun.source.tree.BlockTree;
import com.sun.source.tree.ClassTree;
import com.sun.source.tree.CompilationUnitTree;
import com.sun.source.tree.DoWhileLoopTree;
import com.sun.source.tree.ExpressionTree;
import com.sun.source.tree.ForLoopTree;
import com.sun.source.tree.IdentifierTree;
import com.sun.source.tree.LiteralTree;
import com.sun.source.tree.MemberSelectTree;
import com.sun.source.tree.MethodInvocationTree;
import com.sun.source.tree.MethodTree;
import com.sun.source.tree.NewArrayTree;
import com.sun.source.tree.NewClassTree;
import com.sun.source.tree.PrimitiveTypeTree;
import com.sun.source.tree.Tree;
import com.sun.source.tree.Tree.Kind;
import com.sun.source.tree.TypeCastTree;
import com.sun.source.tree.VariableTree;
import com.sun.source.tree.WhileLoopTree;
import com.sun.source.util.JavacTask;
import com.sun.source.util.TreePathScanner;
import com.sun.source.util.Trees;
import java.io.IOException;
import java.nio.file.Path;
import java.util.HashMap;
import java.util.HashSet;
import java.util.List;
import java.util.Map;
import java.util.Set;
import java.util.TreeSet;
import javax.lang.model.element.Modifier;
import javax.lang.model.type.TypeKind;
import javax.tools.JavaCompiler;
import javax.tools.StandardJavaFileManager;
import javax.tools.ToolProvider;

/**
 * The rules of LANGUAGE.md that can be seen in the source; the numbers in the faults are theirs. Where a rule asks for
 * judgement, the test asks for a plain form that surely keeps it (a loop is a for loop with a counter of its own).
 */
public final class LanguageTest extends TreePathScanner<Void, Void> {
    private static final Path SOURCE = Path.of("src/main/java/RunVectors.java");
    private static final int MOST_PARAMETERS = 7;
    private static final int MOST_LINES = 60;
    private static final int DEEPEST_CALL = 6;
    private static final int MOST_FIELDS = 40;
    private static final Set<Kind> BANNED = Set.of(Kind.THROW, Kind.TRY, Kind.SYNCHRONIZED, Kind.ASSERT,
            Kind.INSTANCE_OF, Kind.LAMBDA_EXPRESSION, Kind.MEMBER_REFERENCE);
    private static final Set<Kind> BANNED_LITERALS = Set.of(Kind.STRING_LITERAL, Kind.NULL_LITERAL,
            Kind.FLOAT_LITERAL, Kind.DOUBLE_LITERAL);

    private final Checks checks = new Checks();
    private final Set<String> declared = new HashSet<>();
    private final Set<String> arrays = new HashSet<>();
    private final Map<String, Set<String>> calls = new HashMap<>();
    private CompilationUnitTree unit;
    private Trees trees;
    private String method = "";

    public static void main(String[] args) throws IOException {
        new LanguageTest().run();
    }

    private void run() throws IOException {
        JavaCompiler compiler = ToolProvider.getSystemJavaCompiler();
        try (StandardJavaFileManager files = compiler.getStandardFileManager(null, null, null)) {
            JavacTask task = (JavacTask) compiler.getTask(null, files, null, List.of("--release", "17"), null,
                    files.getJavaFileObjects(SOURCE));
            unit = task.parse().iterator().next();
            trees = Trees.instance(task);
            checkFile();
            collectNames();
            scan(unit, null);
            for (String each : calls.keySet()) {
                checkDepth(each, new TreeSet<>());
            }
        }
        checks.end();
    }

    private void checkFile() {
        keep(1, unit.getPackage() == null && unit.getTypeDecls().size() == 1, unit, "one class without a package");
        keep(3, unit.getImports().isEmpty(), unit, "no import");
        Set<String> shown = new HashSet<>();
        int fields = 0;
        for (Tree member : type().getMembers()) {
            keep(1, !(member instanceof ClassTree), member, "no nested class");
            keep(5, !(member instanceof BlockTree), member, "no initialiser block");
            if (member instanceof MethodTree each && !each.getModifiers().getFlags().contains(Modifier.PRIVATE)) {
                shown.add(each.getName().toString());
            }
            if (member instanceof VariableTree each && !isStatic(each)) {
                fields++;
            }
        }
        keep(10, fields <= MOST_FIELDS, type(), "at most " + MOST_FIELDS + " fields");
        for (Tree member : type().getMembers()) {
            if (member instanceof MethodTree each && each.getModifiers().getFlags().contains(Modifier.PRIVATE)) {
                keep(1, !shown.contains(each.getName().toString()), each, "no private method with a public one's name");
            }
        }
    }

    private ClassTree type() {
        return (ClassTree) unit.getTypeDecls().get(0);
    }

    private static boolean isStatic(VariableTree field) {
        return field.getModifiers().getFlags().contains(Modifier.STATIC);
    }

    private void collectNames() {
        new TreePathScanner<Void, Void>() {
            @Override
            public Void visitVariable(VariableTree variable, Void none) {
                declared.add(variable.getName().toString());
                if (variable.getType() instanceof ArrayTypeTree) {
                    arrays.add(variable.getName().toString());
                }
                return super.visitVariable(variable, none);
            }

            @Override
            public Void visitMethod(MethodTree each, Void none) {
                declared.add(each.getName().toString());
                calls.put(each.getName().toString(), new TreeSet<>());
                return super.visitMethod(each, none);
            }
        }.scan(unit, null);
    }

    @Override
    public Void scan(Tree tree, Void none) {
        if (tree != null) {
            keep(6, !BANNED.contains(tree.getKind()), tree, "no " + tree.getKind());
        }
        return super.scan(tree, none);
    }

    @Override
    public Void visitMethod(MethodTree each, Void none) {
        method = each.getName().toString();
        if (each.getReturnType() != null) {
            keep(4, each.getReturnType() instanceof PrimitiveTypeTree, each, "a method answers no array");
        }
        keep(10, each.getParameters().size() <= MOST_PARAMETERS, each, "at most " + MOST_PARAMETERS + " parameters");
        long start = trees.getSourcePositions().getStartPosition(unit, each);
        long end = trees.getSourcePositions().getEndPosition(unit, each);
        long lines = unit.getLineMap().getLineNumber(end) - unit.getLineMap().getLineNumber(start) + 1;
        keep(10, lines <= MOST_LINES, each, "at most " + MOST_LINES + " lines");
        super.visitMethod(each, none);
        method = "";
        return null;
    }

    @Override
    public Void visitVariable(VariableTree variable, Void none) {
        Tree kind = variable.getType();
        boolean isArray = kind instanceof ArrayTypeTree;
        keep(2, isArray || kind instanceof PrimitiveTypeTree, variable, "a number, a boolean or an array");
        if (method.isEmpty()) {
            keep(4, variable.getModifiers().getFlags().contains(Modifier.FINAL) || !isArray, variable, "a final array");
            keep(4, variable.getInitializer() instanceof NewArrayTree || !isArray, variable, "an array made here");
        }
        if (isStatic(variable)) {
            keep(5, isIntOrLong(kind) && variable.getModifiers().getFlags().contains(Modifier.FINAL), variable,
                    "a static field is a constant of int or long");
        }
        return super.visitVariable(variable, none);
    }

    private static boolean isIntOrLong(Tree kind) {
        return kind instanceof PrimitiveTypeTree number
                && (number.getPrimitiveTypeKind() == TypeKind.INT || number.getPrimitiveTypeKind() == TypeKind.LONG);
    }

    @Override
    public Void visitPrimitiveType(PrimitiveTypeTree number, Void none) {
        TypeKind kind = number.getPrimitiveTypeKind();
        keep(2, kind != TypeKind.FLOAT && kind != TypeKind.DOUBLE, number, "no float or double");
        return super.visitPrimitiveType(number, none);
    }

    @Override
    public Void visitArrayType(ArrayTypeTree array, Void none) {
        keep(2, array.getType() instanceof PrimitiveTypeTree, array, "arrays of one dimension");
        return super.visitArrayType(array, none);
    }

    @Override
    public Void visitLiteral(LiteralTree literal, Void none) {
        keep(2, !BANNED_LITERALS.contains(literal.getKind()), literal, "no String, null, float or double");
        return super.visitLiteral(literal, none);
    }

    @Override
    public Void visitNewArray(NewArrayTree array, Void none) {
        boolean sized = array.getDimensions().size() == 1 && array.getInitializers() == null;
        keep(4, method.isEmpty() && sized, array, "arrays are made in fields, with a length");
        for (ExpressionTree length : array.getDimensions()) {
            keep(4, length.getKind() == Kind.INT_LITERAL || length.getKind() == Kind.IDENTIFIER, length,
                    "a literal or a constant for a length");
        }
        return super.visitNewArray(array, none);
    }

    @Override
    public Void visitNewClass(NewClassTree made, Void none) {
        keep(4, false, made, "no object is made");
        return super.visitNewClass(made, none);
    }

    @Override
    public Void visitTypeCast(TypeCastTree cast, Void none) {
        keep(6, cast.getType() instanceof PrimitiveTypeTree, cast, "casts between numbers alone");
        return super.visitTypeCast(cast, none);
    }

    @Override
    public Void visitIdentifier(IdentifierTree name, Void none) {
        String text = name.getName().toString();
        // A constructor calls super() without a word in the source.
        keep(3, declared.contains(text) || text.equals("this") || text.equals("super"), name, "no outside name: " + text);
        Tree around = getCurrentPath().getParentPath().getLeaf();
        keep(4, !arrays.contains(text) || around instanceof ArrayAccessTree || around instanceof MemberSelectTree
                || around instanceof MethodInvocationTree, name, "an array is only looked into or handed on");
        return super.visitIdentifier(name, none);
    }

    @Override
    public Void visitMemberSelect(MemberSelectTree member, Void none) {
        keep(3, member.getExpression().toString().equals("this") || member.getIdentifier().contentEquals("length"),
                member, "nothing of another class");
        return super.visitMemberSelect(member, none);
    }

    @Override
    public Void visitMethodInvocation(MethodInvocationTree call, Void none) {
        String name = call.getMethodSelect().toString().replace("this.", "");
        keep(4, !method.isEmpty(), call, "no call outside a method");
        calls.computeIfAbsent(method, any -> new TreeSet<>()).add(name);
        keep(3, calls.containsKey(name) || name.equals("super"), call, "calls of its own methods alone");
        for (ExpressionTree argument : call.getArguments()) {
            keep(10, !hasCall(argument), argument, "no call inside the arguments of another");
        }
        return super.visitMethodInvocation(call, none);
    }

    private static boolean hasCall(Tree tree) {
        boolean[] found = {false};
        new TreePathScanner<Void, Void>() {
            @Override
            public Void scan(Tree each, Void none) {
                found[0] |= each instanceof MethodInvocationTree;
                return each == null || found[0] ? null : each.accept(this, none);
            }
        }.scan(tree, null);
        return found[0];
    }

    @Override
    public Void visitForLoop(ForLoopTree loop, Void none) {
        boolean counts = loop.getInitializer().size() == 1 && loop.getInitializer().get(0) instanceof VariableTree
                && loop.getUpdate().size() == 1 && loop.getCondition() != null;
        keep(8, counts, loop, "one counter and one bound");
        if (counts) {
            String counter = ((VariableTree) loop.getInitializer().get(0)).getName().toString();
            String condition = loop.getCondition().toString();
            String update = loop.getUpdate().get(0).toString().replace(";", "");
            boolean up = condition.matches(counter + " <=? .*") && update.equals(counter + "++");
            boolean down = condition.matches(counter + " >=? .*") && update.equals(counter + "--");
            keep(8, up || down, loop, "a counter that goes to its bound");
            boolean moved = loop.getStatement().toString().matches(
                    "(?s).*(\\b" + counter + " [-+*/%&|^<>]*=[^=]|\\b" + counter + "(\\+\\+|--)|(\\+\\+|--)" + counter + "\\b).*");
            keep(8, !moved, loop, "a counter that the body leaves alone");
        }
        return super.visitForLoop(loop, none);
    }

    @Override
    public Void visitWhileLoop(WhileLoopTree loop, Void none) {
        keep(8, false, loop, "for loops alone, whose end this test can see");
        return super.visitWhileLoop(loop, none);
    }

    @Override
    public Void visitDoWhileLoop(DoWhileLoopTree loop, Void none) {
        keep(8, false, loop, "for loops alone, whose end this test can see");
        return super.visitDoWhileLoop(loop, none);
    }

    private void checkDepth(String name, Set<String> above) {
        if (!above.add(name)) {
            checks.say("rule 8: " + name + " calls itself, by way of " + above);
            return;
        }
        if (above.size() > DEEPEST_CALL) {
            checks.say("rule 10: calls more than " + DEEPEST_CALL + " deep: " + above);
        }
        for (String called : calls.getOrDefault(name, Set.of())) {
            checkDepth(called, new TreeSet<>(above));
        }
    }

    private void keep(int rule, boolean kept, Tree where, String words) {
        if (!kept) {
            long line = unit.getLineMap().getLineNumber(trees.getSourcePositions().getStartPosition(unit, where));
            checks.say("rule " + rule + ", line " + line + ": " + words);
        }
    }
}
