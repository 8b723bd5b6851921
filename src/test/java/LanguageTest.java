import com.sun.source.tree.AssignmentTree;
import com.sun.source.tree.ClassTree;
import com.sun.source.tree.CompilationUnitTree;
import com.sun.source.tree.ForLoopTree;
import com.sun.source.tree.IdentifierTree;
import com.sun.source.tree.LiteralTree;
import com.sun.source.tree.MethodInvocationTree;
import com.sun.source.tree.MethodTree;
import com.sun.source.tree.NewArrayTree;
import com.sun.source.tree.Tree;
import com.sun.source.tree.TypeCastTree;
import com.sun.source.tree.VariableTree;
import com.sun.source.util.JavacTask;
import com.sun.source.util.TreeScanner;
import java.io.IOException;
import java.util.EnumSet;
import java.util.HashSet;
import java.util.Map;
import java.util.Set;
import java.util.TreeMap;
import java.util.TreeSet;
import javax.lang.model.element.Modifier;
import javax.tools.JavaCompiler;
import javax.tools.StandardJavaFileManager;
import javax.tools.ToolProvider;

/**
 * Rules 1 to 6, 8 and 10 of LANGUAGE.md as far as the program's text shows them, looked for in the tree
 * that javac makes of it. Where it is stricter than a rule (no member is selected, every loop is a for
 * with a counter) the program has no need for more.
 */
public final class LanguageTest {
    private static final String PROGRAM = "src/main/java/StateSearcher.java";
    private static final Set<String> TYPES = Set.of("int", "long", "short", "byte", "char", "boolean",
        "int[]", "long[]", "short[]", "byte[]", "char[]", "boolean[]");
    private static final Set<Tree.Kind> FORBIDDEN = EnumSet.of(Tree.Kind.THROW, Tree.Kind.TRY,
        Tree.Kind.SYNCHRONIZED, Tree.Kind.ASSERT, Tree.Kind.INSTANCE_OF, Tree.Kind.LAMBDA_EXPRESSION,
        Tree.Kind.MEMBER_REFERENCE, Tree.Kind.NEW_CLASS, Tree.Kind.IMPORT, Tree.Kind.PACKAGE,
        Tree.Kind.STRING_LITERAL, Tree.Kind.NULL_LITERAL, Tree.Kind.FLOAT_LITERAL,
        Tree.Kind.DOUBLE_LITERAL, Tree.Kind.MEMBER_SELECT, Tree.Kind.WHILE_LOOP,
        Tree.Kind.DO_WHILE_LOOP, Tree.Kind.ENHANCED_FOR_LOOP, Tree.Kind.INTERFACE, Tree.Kind.ENUM,
        Tree.Kind.RECORD, Tree.Kind.ANNOTATION_TYPE);
    private static final int MOST_PARAMETERS = 7;
    private static final int MOST_LINES = 60;
    private static final int MOST_CALLS_DEEP = 6;
    private static final int MOST_FIELDS = 40;
    private static final Checker CHECK = new Checker();

    public static void main(String[] args) throws IOException {
        Rules rules = new Rules(parsed());
        rules.look();
        CHECK.due("rule 10: methods that were looked at", rules.calls.size() > 16, true);
        for (String method : rules.calls.keySet()) {
            Set<String> foreign = new TreeSet<>(rules.calls.get(method));
            foreign.removeAll(rules.declared);
            CHECK.due("rule 3: " + method + " calls what is not the class's own " + foreign, foreign.isEmpty(), true);
            int deep = deepest(method, rules.calls, new HashSet<>());
            CHECK.due("rules 8 and 10: " + method + " calls " + deep + " deep", deep <= MOST_CALLS_DEEP, true);
        }
        CHECK.end("LanguageTest");
    }

    private static CompilationUnitTree parsed() throws IOException {
        JavaCompiler compiler = ToolProvider.getSystemJavaCompiler();
        try (StandardJavaFileManager files = compiler.getStandardFileManager(null, null, null)) {
            JavacTask task = (JavacTask) compiler.getTask(null, files, null, null, null, files.getJavaFileObjects(PROGRAM));
            return task.parse().iterator().next();
        }
    }

    /** How many methods stand in the longest chain of calls from this one; a ring counts as endless. */
    private static int deepest(String method, Map<String, Set<String>> calls, Set<String> above) {
        if (!above.add(method)) {
            return Integer.MAX_VALUE / 2;
        }
        int most = 0;
        for (String called : calls.getOrDefault(method, Set.of())) {
            most = Math.max(most, deepest(called, calls, above));
        }
        above.remove(method);
        return most + 1;
    }

    private static final class Rules extends TreeScanner<Void, Void> {
        private final CompilationUnitTree unit;
        private final Map<String, Set<String>> calls = new TreeMap<>();
        private final Set<String> declared = new TreeSet<>();
        private final Set<String> arrayFields = new TreeSet<>();
        private String method = "";
        private int argumentsAround = 0;
        private int fields = 0;

        Rules(CompilationUnitTree unit) {
            this.unit = unit;
        }

        void look() {
            scan(unit, null);
            CHECK.due("rule 10: " + fields + " fields", fields <= MOST_FIELDS, true);
        }

        private void keeps(String rule, Tree at, boolean kept) {
            String place = kept || at == null ? "" : " in " + (method.isEmpty() ? "the class" : method) + ": " + at;
            CHECK.due(rule + place, kept, true);
        }

        @Override
        public Void scan(Tree tree, Void none) {
            if (tree != null) {
                keeps("rules 1 to 8: what is ruled out", tree, !FORBIDDEN.contains(tree.getKind()));
            }
            return super.scan(tree, none);
        }

        @Override
        public Void visitClass(ClassTree tree, Void none) {
            keeps("rule 1: one class", tree, tree.getSimpleName().contentEquals("StateSearcher"));
            for (Tree member : tree.getMembers()) {
                keeps("rules 1 and 5: only fields and methods", member, member instanceof VariableTree || member instanceof MethodTree);
                if (member instanceof VariableTree) {
                    field((VariableTree) member);
                }
            }
            return super.visitClass(tree, none);
        }

        private void field(VariableTree field) {
            String type = field.getType().toString();
            if (field.getModifiers().getFlags().contains(Modifier.STATIC)) {
                boolean constant = field.getModifiers().getFlags().contains(Modifier.FINAL)
                    && (type.equals("int") || type.equals("long")) && field.getInitializer() != null;
                keeps("rule 5: static fields are constants", field, constant);
                return;
            }
            fields++;
            if (type.endsWith("[]")) {
                arrayFields.add(field.getName().toString());
            }
        }

        @Override
        public Void visitMethod(MethodTree tree, Void none) {
            method = tree.getName().toString();
            declared.add(method);
            calls.putIfAbsent(method, new TreeSet<>());
            keeps("rule 10: parameters", tree, tree.getParameters().size() <= MOST_PARAMETERS);
            keeps("rule 10: lines", tree, tree.toString().split("\n").length <= MOST_LINES);
            String answer = tree.getReturnType() == null ? "void" : tree.getReturnType().toString();
            boolean plain = answer.equals("void") || (TYPES.contains(answer) && !answer.endsWith("[]"));
            keeps("rules 2 and 4: what a method answers", tree, plain);
            super.visitMethod(tree, none);
            method = "";
            return null;
        }

        @Override
        public Void visitVariable(VariableTree tree, Void none) {
            keeps("rule 2: types", tree, TYPES.contains(tree.getType().toString()));
            return super.visitVariable(tree, none);
        }

        @Override
        public Void visitMethodInvocation(MethodInvocationTree tree, Void none) {
            keeps("rule 10: no call inside the arguments of another", tree, argumentsAround == 0);
            calls.computeIfAbsent(method, name -> new TreeSet<>()).add(tree.getMethodSelect().toString());
            argumentsAround++;
            scan(tree.getArguments(), none);
            argumentsAround--;
            return null;
        }

        @Override
        public Void visitNewArray(NewArrayTree tree, Void none) {
            boolean oneLength = tree.getDimensions().size() == 1 && tree.getInitializers() == null;
            boolean constant = oneLength
                && (tree.getDimensions().get(0) instanceof LiteralTree || tree.getDimensions().get(0) instanceof IdentifierTree);
            keeps("rule 4: arrays are made in a field's initialiser, with a constant length", tree, method.isEmpty() && constant);
            return super.visitNewArray(tree, none);
        }

        @Override
        public Void visitAssignment(AssignmentTree tree, Void none) {
            keeps("rule 4: no array field is assigned to", tree, !arrayFields.contains(tree.getVariable().toString()));
            return super.visitAssignment(tree, none);
        }

        @Override
        public Void visitTypeCast(TypeCastTree tree, Void none) {
            String type = tree.getType().toString();
            keeps("rule 6: casts of numbers alone", tree, TYPES.contains(type) && !type.endsWith("[]"));
            return super.visitTypeCast(tree, none);
        }

        @Override
        public Void visitForLoop(ForLoopTree tree, Void none) {
            boolean counted = tree.getInitializer().size() == 1 && tree.getCondition() != null && tree.getUpdate().size() == 1;
            keeps("rule 8: loops have a counter and a bound", tree, counted);
            return super.visitForLoop(tree, none);
        }
    }
}
