import com.sun.source.tree.AssignmentTree;
import com.sun.source.tree.BlockTree;
import com.sun.source.tree.ClassTree;
import com.sun.source.tree.CompilationUnitTree;
import com.sun.source.tree.CompoundAssignmentTree;
import com.sun.source.tree.ExpressionTree;
import com.sun.source.tree.IdentifierTree;
import com.sun.source.tree.LineMap;
import com.sun.source.tree.MethodInvocationTree;
import com.sun.source.tree.MethodTree;
import com.sun.source.tree.NewArrayTree;
import com.sun.source.tree.Tree;
import com.sun.source.tree.VariableTree;
import com.sun.source.util.JavacTask;
import com.sun.source.util.SourcePositions;
import com.sun.source.util.TreeScanner;
import com.sun.source.util.Trees;
import java.io.IOException;
import java.nio.file.Path;
import java.util.EnumSet;
import java.util.List;
import java.util.Map;
import java.util.Set;
import java.util.TreeMap;
import java.util.TreeSet;
import javax.lang.model.element.Modifier;
import javax.tools.JavaCompiler;
import javax.tools.StandardJavaFileManager;
import javax.tools.ToolProvider;

/**
 * The rules of LANGUAGE.md that can be read off the program's text. Rules 7 and 11, that every call
 * ends and always answers the same, and the bounds of the loops stay with the reader.
 */
final class LanguageTest {
    private static final Path PROGRAM = Path.of("src/main/java/StreamFusion.java");
    private static final Set<String> TYPES = Set.of("int", "long", "short", "byte", "char", "boolean",
        "int[]", "long[]", "short[]", "byte[]", "char[]", "boolean[]", "void", "null");
    private static final Set<Tree.Kind> RULED_OUT = EnumSet.of(Tree.Kind.THROW, Tree.Kind.TRY, Tree.Kind.CATCH,
        Tree.Kind.SYNCHRONIZED, Tree.Kind.ASSERT, Tree.Kind.INSTANCE_OF, Tree.Kind.LAMBDA_EXPRESSION,
        Tree.Kind.MEMBER_REFERENCE, Tree.Kind.MEMBER_SELECT, Tree.Kind.NEW_CLASS, Tree.Kind.NULL_LITERAL,
        Tree.Kind.STRING_LITERAL, Tree.Kind.FLOAT_LITERAL, Tree.Kind.DOUBLE_LITERAL, Tree.Kind.ENHANCED_FOR_LOOP);

    private final Map<String, Set<String>> calls = new TreeMap<>();
    private final Set<String> arrays = new TreeSet<>();

    public static void main(String[] args) throws IOException {
        JavaCompiler compiler = ToolProvider.getSystemJavaCompiler();
        try (StandardJavaFileManager files = compiler.getStandardFileManager(null, null, null)) {
            JavacTask task = (JavacTask) compiler.getTask(null, files, null, List.of("-proc:none"), null,
                files.getJavaFileObjects(PROGRAM));
            CompilationUnitTree unit = task.parse().iterator().next();
            new LanguageTest().look(unit, Trees.instance(task).getSourcePositions());
        }
        Check.end();
    }

    private void look(CompilationUnitTree unit, SourcePositions positions) {
        Check.due("rule 1: a package line", unit.getPackage() == null, true);
        Check.due("rule 3: imports", unit.getImports().size(), 0);
        Check.due("rule 1: classes in the file", unit.getTypeDecls().size(), 1);
        ClassTree program = (ClassTree) unit.getTypeDecls().get(0);
        Check.due("rule 1: the class", program.getModifiers().getFlags(), EnumSet.of(Modifier.PUBLIC, Modifier.FINAL));
        Check.due("rule 1: what the class builds upon",
            program.getExtendsClause() == null && program.getImplementsClause().isEmpty(), true);
        int fields = 0;
        for (Tree member : program.getMembers()) {
            if (member instanceof VariableTree field) {
                lookAtField(field);
                fields += field.getModifiers().getFlags().contains(Modifier.STATIC) ? 0 : 1;
            }
        }
        for (Tree member : program.getMembers()) {
            if (member instanceof MethodTree method) {
                lookAtMethod(method);
                lookAtLength(method, unit, positions);
            } else {
                Check.due("rule 1: a member that is a method or a field", member instanceof VariableTree, true);
            }
        }
        Check.due("rule 10: forty fields", fields <= 40, true);
        noKindRuledOut(program);
        callsEnd();
    }

    private static boolean publicOrPrivate(Set<Modifier> flags) {
        return flags.contains(Modifier.PUBLIC) != flags.contains(Modifier.PRIVATE);
    }

    private void lookAtField(VariableTree field) {
        String name = field.getName().toString();
        Set<Modifier> flags = field.getModifiers().getFlags();
        boolean isStatic = flags.contains(Modifier.STATIC);
        boolean isArray = field.getType().getKind() == Tree.Kind.ARRAY_TYPE;
        Check.due("rule 1: who sees " + name, publicOrPrivate(flags), true);
        Check.due("rule 2: the type of " + name, TYPES.contains(field.getType().toString()), true);
        if (isStatic) {
            boolean constant = flags.contains(Modifier.FINAL) && field.getInitializer() != null;
            Check.due("rule 5: a constant " + name, constant && Set.of("int", "long").contains(field.getType().toString()), true);
        }
        if (isArray) {
            arrays.add(name);
            NewArrayTree made = (NewArrayTree) field.getInitializer();
            Check.due("rule 4: " + name + " is made with a length", made.getDimensions().size(), 1);
            Tree.Kind length = made.getDimensions().get(0).getKind();
            Check.due("rule 4: the length of " + name, length == Tree.Kind.IDENTIFIER || length == Tree.Kind.INT_LITERAL, true);
        }
    }

    private void lookAtMethod(MethodTree method) {
        String name = method.getName().toString();
        Check.due("rule 1: who sees " + name, publicOrPrivate(method.getModifiers().getFlags()), true);
        Check.due("rule 1: one method named " + name, calls.put(name, new TreeSet<>()) == null, true);
        Check.due("rule 2: what " + name + " answers", TYPES.contains(String.valueOf(method.getReturnType())), true);
        Check.due("rule 4: an array answered by " + name, String.valueOf(method.getReturnType()).endsWith("[]"), false);
        Check.due("rule 10: the parameters of " + name, method.getParameters().size() <= 7, true);
        new TreeScanner<Void, Boolean>() {
            @Override
            public Void visitVariable(VariableTree variable, Boolean inArguments) {
                Check.due("rule 2: " + variable, TYPES.contains(variable.getType().toString()), true);
                return super.visitVariable(variable, inArguments);
            }

            @Override
            public Void visitNewArray(NewArrayTree made, Boolean inArguments) {
                Check.due("rule 4: an array made in " + name, made.toString(), "none");
                return null;
            }

            @Override
            public Void visitAssignment(AssignmentTree set, Boolean inArguments) {
                noArraySet(name, set.getVariable());
                return super.visitAssignment(set, inArguments);
            }

            @Override
            public Void visitCompoundAssignment(CompoundAssignmentTree set, Boolean inArguments) {
                noArraySet(name, set.getVariable());
                return super.visitCompoundAssignment(set, inArguments);
            }

            @Override
            public Void visitMethodInvocation(MethodInvocationTree call, Boolean inArguments) {
                boolean ofSuper = call.getMethodSelect().toString().equals("super");
                if (!ofSuper) {
                    calls.get(name).add(call.getMethodSelect().toString());
                }
                Check.due("rule 10: " + call + " in the arguments of a call", inArguments, false);
                scan(call.getArguments(), true);
                return null;
            }
        }.scan(method, false);
    }

    private void noArraySet(String method, ExpressionTree variable) {
        boolean array = variable instanceof IdentifierTree && arrays.contains(variable.toString());
        Check.due("rule 4: " + variable + " set in " + method, array, false);
    }

    private static void lookAtLength(MethodTree method, CompilationUnitTree unit, SourcePositions positions) {
        BlockTree body = method.getBody();
        LineMap lines = unit.getLineMap();
        long first = lines.getLineNumber(positions.getStartPosition(unit, method));
        long last = lines.getLineNumber(positions.getEndPosition(unit, body));
        Check.due("rule 10: the lines of " + method.getName(), last - first < 60, true);
    }

    private static void noKindRuledOut(ClassTree program) {
        new TreeScanner<Void, Void>() {
            @Override
            public Void scan(Tree tree, Void nothing) {
                if (tree != null) {
                    Check.due("rules 2 to 6: " + tree.getKind(), RULED_OUT.contains(tree.getKind()), false);
                }
                return super.scan(tree, nothing);
            }
        }.scan(program, null);
    }

    /** Rules 3, 8 and 10: only the class's own methods are called, none through itself, at most six deep. */
    private void callsEnd() {
        for (Set<String> called : calls.values()) {
            Check.due("rule 3: the methods called", calls.keySet().containsAll(called), true);
        }
        for (String method : calls.keySet()) {
            Check.due("rules 8 and 10: calls from " + method + " at most six deep", depth(method, 0) <= 6, true);
        }
    }

    /** The methods on the longest chain; a chain that goes round is cut off once it is too deep anyway. */
    private int depth(String method, int above) {
        int deepest = 0;
        for (String called : above > 6 ? Set.<String>of() : calls.getOrDefault(method, Set.of())) {
            deepest = Math.max(deepest, depth(called, above + 1));
        }
        return deepest + 1;
    }
}
