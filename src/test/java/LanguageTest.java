import com.sun.source.tree.AssertTree;
import com.sun.source.tree.AssignmentTree;
import com.sun.source.tree.BlockTree;
import com.sun.source.tree.ClassTree;
import com.sun.source.tree.CompilationUnitTree;
import com.sun.source.tree.ExpressionTree;
import com.sun.source.tree.IdentifierTree;
import com.sun.source.tree.InstanceOfTree;
import com.sun.source.tree.LambdaExpressionTree;
import com.sun.source.tree.LiteralTree;
import com.sun.source.tree.MemberReferenceTree;
import com.sun.source.tree.MemberSelectTree;
import com.sun.source.tree.MethodInvocationTree;
import com.sun.source.tree.MethodTree;
import com.sun.source.tree.NewArrayTree;
import com.sun.source.tree.NewClassTree;
import com.sun.source.tree.SynchronizedTree;
import com.sun.source.tree.ThrowTree;
import com.sun.source.tree.Tree;
import com.sun.source.tree.TryTree;
import com.sun.source.tree.TypeCastTree;
import com.sun.source.tree.VariableTree;
import com.sun.source.util.JavacTask;
import com.sun.source.util.SourcePositions;
import com.sun.source.util.TreeScanner;
import com.sun.source.util.Trees;
import java.io.IOException;
import java.nio.file.Path;
import java.util.List;
import java.util.Map;
import java.util.Set;
import java.util.TreeMap;
import java.util.TreeSet;
import javax.lang.model.element.Modifier;
import javax.tools.JavaCompiler;
import javax.tools.StandardJavaFileManager;
import javax.tools.ToolProvider;

// The source of the class keeps to the rules of LANGUAGE.md, as far as they can be seen in the
// text's tree. Rules 7 and 11, and that each loop ends (rule 8), are left to a reader. Narrower than
// rule 4, which is harder to see in a tree: arrays are made in the fields' initialisers alone.
public final class LanguageTest {
    private static final Path SOURCE = Path.of("src", "main", "java", "OutlineEditor.java");
    private static final Set<String> TYPES =
        Set.of("int", "long", "short", "byte", "char", "boolean");

    private static int wrong = 0;

    private static void rule(int number, boolean kept, String what) {
        if (!kept) {
            wrong++;
            System.out.println("rule " + number + ": " + what);
        }
    }

    private static boolean isArray(Tree type) {
        return type.toString().endsWith("[]");
    }

    private static void checkType(Tree type, String where) {
        String text = type.toString();
        String element = isArray(type) ? text.substring(0, text.length() - 2) : text;
        rule(2, TYPES.contains(element), "type " + text + " in " + where);
    }

    private static final class Scanner extends TreeScanner<Void, Void> {
        final Set<String> methods = new TreeSet<>();
        final Set<String> arrayFields = new TreeSet<>();
        final Map<String, Set<String>> calls = new TreeMap<>();
        String method = "";
        boolean inInitialiser = false;
        int insideCalls = 0;

        void never(int number, Tree tree) {
            rule(number, false, method + ": " + tree);
        }

        @Override
        public Void visitClass(ClassTree tree, Void unused) {
            int fields = 0;
            for (Tree member : tree.getMembers()) {
                rule(1, !(member instanceof ClassTree), "a nested class");
                rule(5, !(member instanceof BlockTree), "an initialiser block");
                if (member instanceof MethodTree) {
                    methods.add(((MethodTree) member).getName().toString());
                }
                if (member instanceof VariableTree) {
                    fields += noteField((VariableTree) member);
                }
            }
            rule(1, tree.getExtendsClause() == null, "it extends a class");
            rule(1, tree.getImplementsClause().isEmpty(), "it implements an interface");
            rule(10, fields <= 40, fields + " fields");
            return super.visitClass(tree, unused);
        }

        int noteField(VariableTree field) {
            Set<Modifier> flags = field.getModifiers().getFlags();
            if (!flags.contains(Modifier.STATIC)) {
                if (isArray(field.getType())) {
                    arrayFields.add(field.getName().toString());
                }
                return 1;
            }
            boolean whole = Set.of("int", "long").contains(field.getType().toString());
            boolean set = flags.contains(Modifier.FINAL) && field.getInitializer() != null;
            rule(5, whole && set, "static " + field.getName());
            return 0;
        }

        @Override
        public Void visitMethod(MethodTree tree, Void unused) {
            method = tree.getName().toString();
            calls.put(method, new TreeSet<>());
            rule(10, tree.getParameters().size() <= 7, method + " has too many parameters");
            rule(6, tree.getThrows().isEmpty(), method + " throws");
            Tree type = tree.getReturnType();
            if (type != null && !type.toString().equals("void")) {
                checkType(type, method);
                rule(4, !isArray(type), method + " answers an array");
            }
            for (VariableTree parameter : tree.getParameters()) {
                scan(parameter, unused);
            }
            scan(tree.getBody(), unused);
            method = "";
            return null;
        }

        @Override
        public Void visitVariable(VariableTree tree, Void unused) {
            rule(2, tree.getType() != null, "no type at " + tree.getName());
            if (tree.getType() != null) {
                checkType(tree.getType(), method + " " + tree.getName());
            }
            inInitialiser = method.isEmpty();
            scan(tree.getInitializer(), unused);
            inInitialiser = false;
            return null;
        }

        @Override
        public Void visitMethodInvocation(MethodInvocationTree tree, Void unused) {
            ExpressionTree called = tree.getMethodSelect();
            String name = called.toString();
            // javac puts a call of the parent's constructor into every constructor itself.
            if (method.equals("<init>") && name.equals("super") && tree.getArguments().isEmpty()) {
                return null;
            }
            boolean own = called instanceof IdentifierTree && methods.contains(name);
            rule(3, own, method + " calls " + name);
            rule(10, insideCalls == 0, method + ": " + tree + " inside a call's arguments");
            if (!method.isEmpty()) {
                calls.get(method).add(name);
            }
            insideCalls++;
            scan(tree.getArguments(), unused);
            insideCalls--;
            return null;
        }

        @Override
        public Void visitNewArray(NewArrayTree tree, Void unused) {
            rule(4, inInitialiser, method + " makes an array");
            rule(4, tree.getDimensions().size() == 1, "an array without one length: " + tree);
            return super.visitNewArray(tree, unused);
        }

        @Override
        public Void visitAssignment(AssignmentTree tree, Void unused) {
            boolean toArray = arrayFields.contains(tree.getVariable().toString());
            rule(4, !toArray, method + " assigns to an array field: " + tree);
            return super.visitAssignment(tree, unused);
        }

        @Override
        public Void visitLiteral(LiteralTree tree, Void unused) {
            Object value = tree.getValue();
            rule(4, value != null, method + " uses null");
            boolean fit = value == null || value instanceof Integer || value instanceof Long
                || value instanceof Boolean || value instanceof Character;
            rule(2, fit, method + " has the literal " + tree);
            return null;
        }

        @Override
        public Void visitMemberSelect(MemberSelectTree tree, Void unused) {
            String name = tree.getIdentifier().toString();
            boolean ownField = tree.getExpression().toString().equals("this");
            rule(3, ownField || name.equals("length"), method + ": " + tree);
            return super.visitMemberSelect(tree, unused);
        }

        @Override
        public Void visitTypeCast(TypeCastTree tree, Void unused) {
            rule(6, TYPES.contains(tree.getType().toString()), method + ": " + tree);
            return super.visitTypeCast(tree, unused);
        }

        @Override
        public Void visitNewClass(NewClassTree tree, Void unused) {
            never(4, tree);
            return null;
        }

        @Override
        public Void visitThrow(ThrowTree tree, Void unused) {
            never(6, tree);
            return null;
        }

        @Override
        public Void visitTry(TryTree tree, Void unused) {
            never(6, tree);
            return null;
        }

        @Override
        public Void visitSynchronized(SynchronizedTree tree, Void unused) {
            never(6, tree);
            return null;
        }

        @Override
        public Void visitAssert(AssertTree tree, Void unused) {
            never(6, tree);
            return null;
        }

        @Override
        public Void visitInstanceOf(InstanceOfTree tree, Void unused) {
            never(6, tree);
            return null;
        }

        @Override
        public Void visitLambdaExpression(LambdaExpressionTree tree, Void unused) {
            never(6, tree);
            return null;
        }

        @Override
        public Void visitMemberReference(MemberReferenceTree tree, Void unused) {
            never(6, tree);
            return null;
        }

        // Grown step by step, so that a ring of calls shows as a depth without an end.
        void checkDepth() {
            Set<String> reached = new TreeSet<>(calls.keySet());
            int depth = 0;
            while (!reached.isEmpty() && depth <= calls.size()) {
                depth++;
                Set<String> next = new TreeSet<>();
                for (String name : reached) {
                    next.addAll(calls.getOrDefault(name, Set.of()));
                }
                reached = next;
            }
            rule(8, reached.isEmpty(), "recursion through " + reached);
            rule(10, depth <= 6, "calls go " + depth + " deep");
        }
    }

    private static void checkLengths(CompilationUnitTree unit, SourcePositions positions) {
        new TreeScanner<Void, Void>() {
            @Override
            public Void visitMethod(MethodTree tree, Void unused) {
                long start = positions.getStartPosition(unit, tree);
                long end = positions.getEndPosition(unit, tree);
                if (end >= start) {
                    long first = unit.getLineMap().getLineNumber(start);
                    long last = unit.getLineMap().getLineNumber(end);
                    rule(10, last - first < 60, tree.getName() + " is long");
                }
                return null;
            }
        }.scan(unit, null);
    }

    private static void check(CompilationUnitTree unit, SourcePositions positions) {
        rule(1, unit.getPackageName() == null, "a package line");
        rule(3, unit.getImports().isEmpty(), "an import");
        List<? extends Tree> types = unit.getTypeDecls();
        rule(1, types.size() == 1, types.size() + " classes in the file");
        Scanner scanner = new Scanner();
        scanner.scan(unit, null);
        rule(1, scanner.calls.size() > 22, "the methods were not found");
        scanner.checkDepth();
        checkLengths(unit, positions);
    }

    public static void main(String[] args) throws IOException {
        JavaCompiler compiler = ToolProvider.getSystemJavaCompiler();
        try (StandardJavaFileManager files = compiler.getStandardFileManager(null, null, null)) {
            JavacTask task = (JavacTask) compiler.getTask(
                null, files, null, List.of("-proc:none"), null, files.getJavaFileObjects(SOURCE));
            SourcePositions positions = Trees.instance(task).getSourcePositions();
            for (CompilationUnitTree unit : task.parse()) {
                check(unit, positions);
            }
        }
        if (wrong != 0) {
            System.exit(1);
        }
    }
}
