import com.sun.source.tree.AssignmentTree;
import com.sun.source.tree.BinaryTree;
import com.sun.source.tree.ClassTree;
import com.sun.source.tree.CompilationUnitTree;
import com.sun.source.tree.ExpressionTree;
import com.sun.source.tree.IdentifierTree;
import com.sun.source.tree.MemberSelectTree;
import com.sun.source.tree.MethodInvocationTree;
import com.sun.source.tree.MethodTree;
import com.sun.source.tree.NewArrayTree;
import com.sun.source.tree.Tree;
import com.sun.source.tree.Tree.Kind;
import com.sun.source.tree.TypeCastTree;
import com.sun.source.tree.VariableTree;
import com.sun.source.util.JavacTask;
import com.sun.source.util.SourcePositions;
import com.sun.source.util.TreeScanner;
import com.sun.source.util.Trees;
import java.io.IOException;
import java.nio.file.Path;
import java.util.ArrayDeque;
import java.util.ArrayList;
import java.util.Deque;
import java.util.EnumSet;
import java.util.List;
import java.util.Map;
import java.util.Set;
import java.util.TreeMap;
import java.util.TreeSet;
import javax.lang.model.element.Modifier;
import javax.tools.JavaCompiler;
import javax.tools.StandardJavaFileManager;
import javax.tools.ToolProvider;

/** The rules of LANGUAGE.md that can be read from the class as javac's parser sees it. */
public final class LanguageTest {
    private static final Path SOURCE = Path.of("src/main/java/HullSuite.java");
    private static final Set<String> TYPES = Set.of("int", "long", "short", "byte", "char", "boolean",
        "int[]", "long[]", "short[]", "byte[]", "char[]", "boolean[]");
    private static final Set<Kind> RULED_OUT = EnumSet.of(Kind.THROW, Kind.TRY, Kind.CATCH, Kind.SYNCHRONIZED,
        Kind.ASSERT, Kind.INSTANCE_OF, Kind.LAMBDA_EXPRESSION, Kind.MEMBER_REFERENCE, Kind.NEW_CLASS,
        Kind.NULL_LITERAL, Kind.STRING_LITERAL, Kind.FLOAT_LITERAL, Kind.DOUBLE_LITERAL, Kind.ANNOTATION);
    private static final Set<Kind> BRANCHES = EnumSet.of(Kind.FOR_LOOP, Kind.WHILE_LOOP, Kind.DO_WHILE_LOOP,
        Kind.ENHANCED_FOR_LOOP, Kind.IF, Kind.SWITCH, Kind.CONDITIONAL_EXPRESSION);

    private final CompilationUnitTree unit;
    private final SourcePositions positions;
    private final List<VariableTree> fields = new ArrayList<>();
    /** By name and number of parameters. */
    private final Map<String, MethodTree> methods = new TreeMap<>();
    private final Set<String> constants = new TreeSet<>();
    private final Set<String> arrayFields = new TreeSet<>();
    private MethodTree constructor = null;

    private LanguageTest(CompilationUnitTree unit, SourcePositions positions) {
        this.unit = unit;
        this.positions = positions;
    }

    public static void main(String[] args) throws IOException {
        JavaCompiler compiler = ToolProvider.getSystemJavaCompiler();
        try (StandardJavaFileManager files = compiler.getStandardFileManager(null, null, null)) {
            JavacTask task = (JavacTask) compiler.getTask(null, files, null, null, null,
                files.getJavaFileObjects(SOURCE));
            CompilationUnitTree unit = task.parse().iterator().next();
            new LanguageTest(unit, Trees.instance(task).getSourcePositions()).check();
        }
        Due.finish();
    }

    private void check() {
        Due.is("rule 1: package lines", unit.getPackageName() == null ? 0 : 1, 0);
        Due.is("rule 3: imports", unit.getImports().size(), 0);
        Due.is("rule 1: classes", unit.getTypeDecls().size(), 1);
        ClassTree type = (ClassTree) unit.getTypeDecls().get(0);
        type.getMembers().forEach(this::sort);
        fields.forEach(this::checkField);
        Due.is("rule 10: at most forty fields", fields.size() - constants.size() <= 40, true);
        methods.values().forEach(this::checkMethod);
        checkNames();
        methods.keySet().forEach(name -> follow(name, new ArrayDeque<>()));
        type.accept(new Everywhere(), null);
        methods.values().forEach(method -> method.accept(new WithinMethods(), null));
        constructor.accept(new WithinTheConstructor(), null);
    }

    private void sort(Tree member) {
        if (member instanceof VariableTree field) {
            fields.add(field);
        } else if (member instanceof MethodTree method && method.getReturnType() == null) {
            Due.is("rule 1: one constructor", constructor == null, true);
            constructor = method;
        } else if (member instanceof MethodTree method) {
            String key = key(method.getName(), method.getParameters());
            Due.is("one method " + key, methods.put(key, method) == null, true);
        } else {
            Due.is("rule 1: no member of the kind " + member.getKind(), true, false);
        }
    }

    private void checkField(VariableTree field) {
        String name = field.getName().toString();
        Set<Modifier> modifiers = field.getModifiers().getFlags();
        String type = field.getType().toString();
        if (modifiers.contains(Modifier.STATIC)) {
            constants.add(name);
            Due.is("rule 5: " + name + " is a constant", modifiers.contains(Modifier.FINAL), true);
            Due.is("rule 5: " + name + " is int or long", type.equals("int") || type.equals("long"), true);
            Due.is("rule 5: " + name + " has a value", field.getInitializer() != null, true);
        } else {
            Due.is("rule 1: " + name + " is private", modifiers.contains(Modifier.PRIVATE), true);
        }
        if (type.endsWith("[]")) {
            arrayFields.add(name);
        }
    }

    private void checkMethod(MethodTree method) {
        String name = method.getName().toString();
        String type = method.getReturnType().toString();
        Due.is("rule 4: " + name + " answers no array", type.endsWith("[]"), false);
        Due.is("rule 2: " + name + " answers " + type, type.equals("void") || TYPES.contains(type), true);
        Due.is("rule 10: " + name + " takes at most seven", method.getParameters().size() <= 7, true);
        Due.is("rule 10: " + name + " is short", lines(method) <= 65, true);
        Due.is("rule 6: " + name + " throws", method.getThrows().size(), 0);
    }

    private void checkNames() {
        Set<String> ofPublic = new TreeSet<>();
        Set<String> ofPrivate = new TreeSet<>();
        for (MethodTree method : methods.values()) {
            boolean isPublic = method.getModifiers().getFlags().contains(Modifier.PUBLIC);
            (isPublic ? ofPublic : ofPrivate).add(method.getName().toString());
        }
        ofPrivate.retainAll(ofPublic);
        Due.is("rule 1: private methods with the name of a public one " + ofPrivate, ofPrivate.size(), 0);
    }

    private static String key(Object name, List<?> parameters) {
        return name + "/" + parameters.size();
    }

    private long lines(Tree tree) {
        long first = unit.getLineMap().getLineNumber(positions.getStartPosition(unit, tree));
        long last = unit.getLineMap().getLineNumber(positions.getEndPosition(unit, tree));
        return last - first + 1;
    }

    /** Every way down from a method: six methods deep at most, and none of them twice. */
    private void follow(String name, Deque<String> above) {
        if (above.contains(name) || above.size() == 6) {
            Due.is("rules 8 and 10: the calls " + above + " go on to " + name, true, false);
            return;
        }
        above.addLast(name);
        for (String called : callsIn(methods.get(name))) {
            if (methods.containsKey(called)) {
                follow(called, above);
            }
        }
        above.removeLast();
    }

    private static Set<String> callsIn(Tree tree) {
        Set<String> called = new TreeSet<>();
        tree.accept(new TreeScanner<Void, Void>() {
            @Override
            public Void visitMethodInvocation(MethodInvocationTree call, Void nothing) {
                called.add(key(call.getMethodSelect(), call.getArguments()));
                return super.visitMethodInvocation(call, nothing);
            }
        }, null);
        return called;
    }

    private boolean namesAnArray(ExpressionTree expression) {
        return expression instanceof IdentifierTree name && arrayFields.contains(name.getName().toString());
    }

    private final class Everywhere extends TreeScanner<Void, Void> {
        @Override
        public Void scan(Tree tree, Void nothing) {
            if (tree != null && RULED_OUT.contains(tree.getKind())) {
                Due.is("rules 2, 4 and 6: a " + tree.getKind() + ": " + tree, true, false);
            }
            return super.scan(tree, nothing);
        }

        @Override
        public Void visitVariable(VariableTree variable, Void nothing) {
            String type = String.valueOf(variable.getType());
            Due.is("rule 2: " + variable.getName() + " is of type " + type, TYPES.contains(type), true);
            return super.visitVariable(variable, nothing);
        }

        @Override
        public Void visitTypeCast(TypeCastTree cast, Void nothing) {
            Due.is("rule 6: the cast " + cast, cast.getType().getKind() == Kind.PRIMITIVE_TYPE, true);
            return super.visitTypeCast(cast, nothing);
        }

        @Override
        public Void visitMemberSelect(MemberSelectTree select, Void nothing) {
            boolean length = select.getIdentifier().contentEquals("length");
            boolean own = select.getExpression().toString().equals("this");
            Due.is("rule 3: " + select, length || own, true);
            return super.visitMemberSelect(select, nothing);
        }

        @Override
        public Void visitMethodInvocation(MethodInvocationTree call, Void nothing) {
            String name = key(call.getMethodSelect(), call.getArguments());
            Due.is("rule 3: " + name + " is a method of the class", methods.containsKey(name), true);
            for (ExpressionTree argument : call.getArguments()) {
                Due.is("rule 10: calls in the argument " + argument + " of " + name, callsIn(argument).size(), 0);
            }
            return super.visitMethodInvocation(call, nothing);
        }

        @Override
        public Void visitBinary(BinaryTree binary, Void nothing) {
            boolean equality = binary.getKind() == Kind.EQUAL_TO || binary.getKind() == Kind.NOT_EQUAL_TO;
            boolean ofArrays = namesAnArray(binary.getLeftOperand()) || namesAnArray(binary.getRightOperand());
            Due.is("rule 4: arrays compared in " + binary, equality && ofArrays, false);
            return super.visitBinary(binary, nothing);
        }

        @Override
        public Void visitNewArray(NewArrayTree made, Void nothing) {
            Due.is("rule 4: " + made + " has one length", made.getDimensions().size(), 1);
            for (ExpressionTree length : made.getDimensions()) {
                for (String part : length.toString().split("\\W+")) {
                    boolean fixed = part.matches("[0-9]+") || constants.contains(part);
                    Due.is("rule 4: " + part + " in the length " + length + " is fixed", fixed, true);
                }
            }
            return super.visitNewArray(made, nothing);
        }
    }

    private final class WithinMethods extends TreeScanner<Void, Void> {
        @Override
        public Void visitNewArray(NewArrayTree made, Void nothing) {
            Due.is("rule 4: a method makes " + made, true, false);
            return super.visitNewArray(made, nothing);
        }

        @Override
        public Void visitAssignment(AssignmentTree assignment, Void nothing) {
            Due.is("rule 4: a method has " + assignment, namesAnArray(assignment.getVariable()), false);
            return super.visitAssignment(assignment, nothing);
        }
    }

    private static final class WithinTheConstructor extends TreeScanner<Void, Void> {
        private int branches = 0;

        @Override
        public Void scan(Tree tree, Void nothing) {
            boolean branch = tree != null && BRANCHES.contains(tree.getKind());
            branches += branch ? 1 : 0;
            super.scan(tree, nothing);
            branches -= branch ? 1 : 0;
            return null;
        }

        @Override
        public Void visitNewArray(NewArrayTree made, Void nothing) {
            Due.is("rule 4: " + made + " in a loop or behind a condition", branches, 0);
            return super.visitNewArray(made, nothing);
        }
    }
}
