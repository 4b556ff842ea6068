import com.sun.source.tree.AssignmentTree;
import com.sun.source.tree.BlockTree;
import com.sun.source.tree.ClassTree;
import com.sun.source.tree.CompilationUnitTree;
import com.sun.source.tree.ExpressionTree;
import com.sun.source.tree.IdentifierTree;
import com.sun.source.tree.LiteralTree;
import com.sun.source.tree.MemberSelectTree;
import com.sun.source.tree.MethodInvocationTree;
import com.sun.source.tree.MethodTree;
import com.sun.source.tree.NewArrayTree;
import com.sun.source.tree.Tree;
import com.sun.source.tree.TypeCastTree;
import com.sun.source.tree.VariableTree;
import com.sun.source.util.JavacTask;
import com.sun.source.util.SourcePositions;
import com.sun.source.util.TreeScanner;
import com.sun.source.util.Trees;
import java.io.IOException;
import java.lang.reflect.Field;
import java.lang.reflect.Method;
import java.lang.reflect.Modifier;
import java.nio.file.Path;
import java.util.ArrayList;
import java.util.EnumSet;
import java.util.HashMap;
import java.util.List;
import java.util.Map;
import java.util.Set;
import java.util.TreeSet;
import javax.tools.JavaCompiler;
import javax.tools.StandardJavaFileManager;
import javax.tools.ToolProvider;

/** The rules of LANGUAGE.md as far as a test can see them; FaceTest has the public members of rule 1. */
public final class LanguageTest {
    private static final Path SOURCE = Path.of("src/main/java/AdaptiveLlStar.java");
    private static final Set<String> TYPES = Set.of("int", "long", "short", "byte", "char", "boolean");
    private static final Set<Tree.Kind> FORBIDDEN = EnumSet.of(Tree.Kind.IMPORT, Tree.Kind.PACKAGE, Tree.Kind.THROW,
            Tree.Kind.TRY, Tree.Kind.CATCH, Tree.Kind.SYNCHRONIZED, Tree.Kind.ASSERT, Tree.Kind.INSTANCE_OF,
            Tree.Kind.LAMBDA_EXPRESSION, Tree.Kind.MEMBER_REFERENCE, Tree.Kind.NEW_CLASS, Tree.Kind.NULL_LITERAL,
            Tree.Kind.STRING_LITERAL, Tree.Kind.FLOAT_LITERAL, Tree.Kind.DOUBLE_LITERAL, Tree.Kind.INTERFACE,
            Tree.Kind.ENUM, Tree.Kind.RECORD, Tree.Kind.ANNOTATION_TYPE);
    private static final Set<Tree.Kind> NOT_ALWAYS_ONCE = EnumSet.of(Tree.Kind.FOR_LOOP, Tree.Kind.WHILE_LOOP,
            Tree.Kind.DO_WHILE_LOOP, Tree.Kind.ENHANCED_FOR_LOOP, Tree.Kind.IF, Tree.Kind.SWITCH,
            Tree.Kind.CONDITIONAL_EXPRESSION);

    public static void main(String[] args) throws IOException {
        names();
        fields();
        source();
        Check.end();
    }

    private static void names() {
        TreeSet<String> open = new TreeSet<>();
        TreeSet<String> closed = new TreeSet<>();
        for (Method method : AdaptiveLlStar.class.getDeclaredMethods()) {
            (Modifier.isPrivate(method.getModifiers()) ? closed : open).add(method.getName());
        }
        for (String name : closed) {
            Check.same("rule 1, no private method has a public name: " + name, open.contains(name), false);
        }
    }

    private static void fields() {
        int count = 0;
        for (Field field : AdaptiveLlStar.class.getDeclaredFields()) {
            Class<?> type = field.getType();
            if (Modifier.isStatic(field.getModifiers())) {
                Check.same("rule 5, final: " + field.getName(), Modifier.isFinal(field.getModifiers()), true);
                Check.same("rule 5, int or long: " + field.getName(), type == int.class || type == long.class, true);
            } else {
                count++;
            }
        }
        Check.same("rule 10, some forty fields: " + count, count <= 44, true);
    }

    private static void source() throws IOException {
        JavaCompiler compiler = ToolProvider.getSystemJavaCompiler();
        try (StandardJavaFileManager files = compiler.getStandardFileManager(null, null, null)) {
            JavacTask task = (JavacTask) compiler.getTask(null, files, null, List.of("--release", "17"), null,
                    files.getJavaFileObjects(SOURCE));
            Trees trees = Trees.instance(task);
            for (CompilationUnitTree unit : task.parse()) {
                new Rules(unit, trees.getSourcePositions()).check();
            }
        }
    }

    /** Goes through the source and tells what stands against a rule. */
    private static final class Rules extends TreeScanner<Void, Void> {
        private final CompilationUnitTree unit;
        private final SourcePositions positions;
        private final Set<String> names = new TreeSet<>();
        private final Set<String> methods = new TreeSet<>();
        private final Set<String> arrayFields = new TreeSet<>();
        private final Map<String, Set<String>> calls = new HashMap<>();
        private MethodTree method = null;
        private int uncertain = 0;
        private int arguments = 0;

        Rules(CompilationUnitTree unit, SourcePositions positions) {
            this.unit = unit;
            this.positions = positions;
        }

        void check() {
            Check.same("rule 1, one class in the file", unit.getTypeDecls().size(), 1);
            ClassTree type = (ClassTree) unit.getTypeDecls().get(0);
            for (Tree member : type.getMembers()) {
                Check.same("rule 1, no nested class", member instanceof ClassTree, false);
                Check.same("rule 5, no initialiser", member instanceof BlockTree, false);
                if (member instanceof MethodTree) {
                    methods.add(((MethodTree) member).getName().toString());
                }
                if (member instanceof VariableTree) {
                    arrayField((VariableTree) member);
                }
            }
            new TreeScanner<Void, Void>() {
                @Override
                public Void visitVariable(VariableTree variable, Void nothing) {
                    names.add(variable.getName().toString());
                    return super.visitVariable(variable, nothing);
                }
            }.scan(unit, null);
            scan(unit, null);
            for (String name : methods) {
                Check.same("rules 8 and 10, six calls deep at most: " + name, depth(name, 0) <= 6, true);
            }
        }

        private void arrayField(VariableTree field) {
            if (field.getType().getKind() == Tree.Kind.ARRAY_TYPE) {
                arrayFields.add(field.getName().toString());
            }
        }

        private void tell(String rule, Tree tree) {
            long line = unit.getLineMap().getLineNumber(positions.getStartPosition(unit, tree));
            Check.tell(rule + ", line " + line + ": " + tree.toString().lines().findFirst().orElse(""));
        }

        private static boolean isType(Tree type) {
            String name = type.toString();
            return TYPES.contains(name.endsWith("[]") ? name.substring(0, name.length() - 2) : name);
        }

        @Override
        public Void scan(Tree tree, Void nothing) {
            if (tree == null) {
                return null;
            }
            if (FORBIDDEN.contains(tree.getKind())) {
                tell("rules 1 to 6, no " + tree.getKind(), tree);
            }
            boolean isUncertain = NOT_ALWAYS_ONCE.contains(tree.getKind());
            uncertain += isUncertain ? 1 : 0;
            super.scan(tree, nothing);
            uncertain -= isUncertain ? 1 : 0;
            return null;
        }

        @Override
        public Void visitMethod(MethodTree tree, Void nothing) {
            method = tree;
            calls.put(tree.getName().toString(), new TreeSet<>());
            Check.same("rule 10, seven parameters at most: " + tree.getName(), tree.getParameters().size() <= 7, true);
            if (tree.getReturnType() != null) {
                String type = tree.getReturnType().toString();
                Check.same("rules 2 and 4, answer of " + tree.getName(), TYPES.contains(type) || type.equals("void"),
                        true);
            }
            long from = unit.getLineMap().getLineNumber(positions.getStartPosition(unit, tree));
            long to = unit.getLineMap().getLineNumber(positions.getEndPosition(unit, tree));
            Check.same("rule 10, some sixty lines: " + tree.getName(), to - from < 66, true);
            super.visitMethod(tree, nothing);
            method = null;
            return null;
        }

        @Override
        public Void visitVariable(VariableTree tree, Void nothing) {
            if (tree.getType() == null || !isType(tree.getType())) {
                tell("rule 2, types", tree);
            }
            return super.visitVariable(tree, nothing);
        }

        @Override
        public Void visitTypeCast(TypeCastTree tree, Void nothing) {
            if (!TYPES.contains(tree.getType().toString())) {
                tell("rule 6, casts", tree);
            }
            return super.visitTypeCast(tree, nothing);
        }

        @Override
        public Void visitNewArray(NewArrayTree tree, Void nothing) {
            boolean isOnce = method == null || method.getReturnType() == null && uncertain == 0;
            if (!isOnce || tree.getInitializers() != null || tree.getDimensions().size() != 1
                    || !isConstant(tree.getDimensions().get(0))) {
                tell("rule 4, arrays", tree);
            }
            return super.visitNewArray(tree, nothing);
        }

        private static boolean isConstant(ExpressionTree length) {
            return length instanceof LiteralTree || length.toString().matches("[A-Z0-9_ ()+*.-]+");
        }

        @Override
        public Void visitAssignment(AssignmentTree tree, Void nothing) {
            String target = tree.getVariable().toString().replace("this.", "");
            if (arrayFields.contains(target) && method != null && method.getReturnType() != null) {
                tell("rule 4, array fields", tree);
            }
            return super.visitAssignment(tree, nothing);
        }

        @Override
        public Void visitIdentifier(IdentifierTree tree, Void nothing) {
            String name = tree.getName().toString();
            boolean isOwn = names.contains(name) || methods.contains(name) || name.equals("this")
                    || name.equals("AdaptiveLlStar");
            if (!isOwn) {
                tell("rule 3, no library", tree);
            }
            return super.visitIdentifier(tree, nothing);
        }

        @Override
        public Void visitMemberSelect(MemberSelectTree tree, Void nothing) {
            String of = tree.getExpression().toString();
            String name = tree.getIdentifier().toString();
            boolean isOwn = name.equals("length") || of.equals("this") || of.equals("AdaptiveLlStar");
            if (!isOwn) {
                tell("rule 3, no library", tree);
            }
            return super.visitMemberSelect(tree, nothing);
        }

        @Override
        public Void visitMethodInvocation(MethodInvocationTree tree, Void nothing) {
            String name = tree.getMethodSelect().toString().replaceAll("^(this|AdaptiveLlStar)\\.", "");
            boolean isOwn = methods.contains(name);
            if (!isOwn) {
                tell("rule 3, no library", tree);
            }
            if (arguments > 0) {
                tell("rule 10, no call inside arguments", tree);
            }
            if (method != null && isOwn) {
                calls.get(method.getName().toString()).add(name);
            }
            arguments++;
            super.visitMethodInvocation(tree, nothing);
            arguments--;
            return null;
        }

        /** How many calls go down from a method; a recursion goes deeper than any bound. */
        private int depth(String name, int above) {
            int deepest = 0;
            if (above <= 10) {
                for (String called : calls.getOrDefault(name, Set.of())) {
                    deepest = Math.max(deepest, 1 + depth(called, above + 1));
                }
            }
            return deepest;
        }
    }
}
