import com.sun.source.tree.AssignmentTree;
import com.sun.source.tree.ClassTree;
import com.sun.source.tree.CompilationUnitTree;
import com.sun.source.tree.ForLoopTree;
import com.sun.source.tree.IdentifierTree;
import com.sun.source.tree.LiteralTree;
import com.sun.source.tree.MethodInvocationTree;
import com.sun.source.tree.MethodTree;
import com.sun.source.tree.NewArrayTree;
import com.sun.source.tree.StatementTree;
import com.sun.source.tree.Tree;
import com.sun.source.tree.TypeCastTree;
import com.sun.source.tree.VariableTree;
import com.sun.source.util.JavacTask;
import com.sun.source.util.TreeScanner;
import java.io.IOException;
import java.nio.file.Path;
import java.util.Map;
import java.util.Set;
import java.util.TreeMap;
import java.util.TreeSet;
import javax.lang.model.element.Modifier;
import javax.tools.JavaCompiler;
import javax.tools.StandardJavaFileManager;
import javax.tools.ToolProvider;

/**
 * The rules of LANGUAGE.md that the source itself can show. It is stricter than they are
 * (every loop is a for, every array a field's) where that is simpler to look at and the
 * class needs no more. FaceTest has the rest of rule 1, and the tests with wrong inputs
 * have rule 7.
 */
public final class LanguageTest extends TreeScanner<Void, Void> {
    private static final Path SOURCE = Path.of("src/main/java/BehindStore.java");
    private static final Set<String> NUMBERS =
        Set.of("int", "long", "short", "byte", "char", "boolean");
    private static final Map<Tree.Kind, Integer> RULE_AGAINST = Map.ofEntries(
        Map.entry(Tree.Kind.NEW_CLASS, 2),
        Map.entry(Tree.Kind.MEMBER_SELECT, 3),
        Map.entry(Tree.Kind.THROW, 6),
        Map.entry(Tree.Kind.TRY, 6),
        Map.entry(Tree.Kind.SYNCHRONIZED, 6),
        Map.entry(Tree.Kind.ASSERT, 6),
        Map.entry(Tree.Kind.INSTANCE_OF, 6),
        Map.entry(Tree.Kind.LAMBDA_EXPRESSION, 6),
        Map.entry(Tree.Kind.MEMBER_REFERENCE, 6),
        Map.entry(Tree.Kind.WHILE_LOOP, 8),
        Map.entry(Tree.Kind.DO_WHILE_LOOP, 8),
        Map.entry(Tree.Kind.ENHANCED_FOR_LOOP, 8));

    private final Check check = new Check();
    private final Set<String> constants = new TreeSet<>();
    private final Set<String> arrays = new TreeSet<>();
    private final Set<String> publicMethods = new TreeSet<>();
    private final Map<String, Set<String>> callsOf = new TreeMap<>();
    private int classes = 0;
    private int fields = 0;
    private String method = "";
    private boolean insideArguments = false;

    public static void main(String[] args) throws IOException {
        JavaCompiler compiler = ToolProvider.getSystemJavaCompiler();
        try (StandardJavaFileManager files = compiler.getStandardFileManager(null, null, null)) {
            JavacTask task = (JavacTask) compiler.getTask(
                null, files, null, null, null, files.getJavaFileObjects(SOURCE));
            LanguageTest test = new LanguageTest();
            for (CompilationUnitTree unit : task.parse()) {
                test.scan(unit, null);
            }
            test.methodsCallNoneAgain();
            test.check.end();
        }
    }

    private void holds(int rule, Tree found, boolean holds) {
        check.part("rule " + rule);
        check.isTrue(found.toString().strip(), holds);
    }

    @Override
    public Void scan(Tree found, Void p) {
        if (found != null && RULE_AGAINST.containsKey(found.getKind())) {
            holds(RULE_AGAINST.get(found.getKind()), found, false);
        }
        return super.scan(found, p);
    }

    @Override
    public Void visitCompilationUnit(CompilationUnitTree unit, Void p) {
        check.part("rules 1 and 3");
        check.isTrue("no package line", unit.getPackage() == null);
        check.isTrue("no import", unit.getImports().isEmpty());
        super.visitCompilationUnit(unit, p);
        check.part("rules 1 and 10");
        check.due("classes", classes, 1);
        check.isTrue("some forty fields, not " + fields, fields <= 40);
        return null;
    }

    @Override
    public Void visitClass(ClassTree found, Void p) {
        classes++;
        for (Tree member : found.getMembers()) {
            if (member instanceof VariableTree field) {
                lookAtField(field);
            } else if (member instanceof MethodTree made) {
                if (made.getModifiers().getFlags().contains(Modifier.PUBLIC)) {
                    check.part("rule 1");
                    check.isTrue(made.getName() + " stands once",
                        publicMethods.add(made.getName().toString()));
                }
            } else {
                holds(5, member, false);
            }
        }
        return super.visitClass(found, p);
    }

    private void lookAtField(VariableTree field) {
        Set<Modifier> flags = field.getModifiers().getFlags();
        String name = field.getName().toString();
        Tree value = field.getInitializer();
        if (flags.contains(Modifier.STATIC)) {
            constants.add(name);
            holds(5, field, flags.contains(Modifier.FINAL)
                && Set.of("int", "long").contains(field.getType().toString())
                && value != null && value.toString().matches("-?[0-9]+"));
            return;
        }
        fields++;
        if (field.getType().toString().endsWith("[]")) {
            arrays.add(name);
            holds(4, field, value instanceof NewArrayTree made
                && made.getInitializers() == null && made.getDimensions().size() == 1
                && constants.contains(made.getDimensions().get(0).toString()));
        }
    }

    @Override
    public Void visitMethod(MethodTree made, Void p) {
        Set<Modifier> flags = made.getModifiers().getFlags();
        method = made.getName().toString();
        check.part("rule 1");
        check.isTrue(method + " bears a name of its own",
            !flags.contains(Modifier.PRIVATE) || !publicMethods.contains(method));
        check.isTrue(method + " stands once", callsOf.put(method, new TreeSet<>()) == null);
        check.part("rule 10");
        check.isTrue(method + " takes at most seven", made.getParameters().size() <= 7);
        check.isTrue(method + " is short", made.toString().lines().count() <= 60);
        if (made.getReturnType() != null) {
            String answered = made.getReturnType().toString();
            holds(4, made, answered.equals("void") || NUMBERS.contains(answered));
        }
        super.visitMethod(made, p);
        method = "";
        return null;
    }

    @Override
    public Void visitVariable(VariableTree made, Void p) {
        holds(2, made, NUMBERS.contains(made.getType().toString().replaceFirst("\\[]$", "")));
        return super.visitVariable(made, p);
    }

    @Override
    public Void visitMethodInvocation(MethodInvocationTree call, Void p) {
        holds(10, call, !insideArguments);
        holds(3, call, call.getMethodSelect() instanceof IdentifierTree);
        callsOf.get(method).add(call.getMethodSelect().toString());
        insideArguments = true;
        scan(call.getArguments(), p);
        insideArguments = false;
        return null;
    }

    // A method that came back to itself would never let the walk end.
    private void methodsCallNoneAgain() {
        Set<String> reached = new TreeSet<>(callsOf.keySet());
        for (int deep = 1; deep <= 6; deep++) {
            Set<String> next = new TreeSet<>();
            for (String from : reached) {
                check.part("rule 3");
                check.isTrue(from + " is a method of the class", callsOf.containsKey(from));
                next.addAll(callsOf.getOrDefault(from, Set.of()));
            }
            reached = next;
        }
        check.part("rules 8 and 10");
        check.isTrue("calls go at most six deep: " + reached, reached.isEmpty());
    }

    // The counter of a for runs up to a constant, and nothing but its own step moves it.
    @Override
    public Void visitForLoop(ForLoopTree loop, Void p) {
        String head = loop.getInitializer() + "; " + loop.getCondition() + "; " + loop.getUpdate();
        boolean counts = head.matches("int (\\w+) = 0; \\1 < (\\w+); \\1\\+\\+;?")
            && constants.contains(head.replaceFirst(".* < (\\w+);.*", "$1"));
        holds(8, loop, counts && !movesCounter(loop.getStatement(), head.split(" ")[1]));
        return super.visitForLoop(loop, p);
    }

    private static boolean movesCounter(StatementTree body, String counter) {
        String text = body.toString();
        return text.matches("(?s).*\\b" + counter + "( [-+*/%&|^<>]*= |\\+\\+|--).*")
            || text.matches("(?s).*(\\+\\+|--)" + counter + "\\b.*");
    }

    @Override
    public Void visitAssignment(AssignmentTree made, Void p) {
        holds(4, made, !arrays.contains(made.getVariable().toString()));
        return super.visitAssignment(made, p);
    }

    @Override
    public Void visitNewArray(NewArrayTree made, Void p) {
        holds(4, made, method.isEmpty());
        return super.visitNewArray(made, p);
    }

    @Override
    public Void visitLiteral(LiteralTree found, Void p) {
        holds(2, found, found.getValue() instanceof Integer || found.getValue() instanceof Boolean);
        return super.visitLiteral(found, p);
    }

    @Override
    public Void visitTypeCast(TypeCastTree found, Void p) {
        holds(6, found, NUMBERS.contains(found.getType().toString()));
        return super.visitTypeCast(found, p);
    }
}
