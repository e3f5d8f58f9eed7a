import com.sun.source.tree.AssignmentTree;
import com.sun.source.tree.ClassTree;
import com.sun.source.tree.CompilationUnitTree;
import com.sun.source.tree.CompoundAssignmentTree;
import com.sun.source.tree.ExpressionTree;
import com.sun.source.tree.ForLoopTree;
import com.sun.source.tree.IdentifierTree;
import com.sun.source.tree.LiteralTree;
import com.sun.source.tree.MemberSelectTree;
import com.sun.source.tree.MethodInvocationTree;
import com.sun.source.tree.MethodTree;
import com.sun.source.tree.NewArrayTree;
import com.sun.source.tree.NewClassTree;
import com.sun.source.tree.PrimitiveTypeTree;
import com.sun.source.tree.Tree;
import com.sun.source.tree.UnaryTree;
import com.sun.source.tree.VariableTree;
import com.sun.source.util.JavacTask;
import com.sun.source.util.SourcePositions;
import com.sun.source.util.TreeScanner;
import com.sun.source.util.Trees;
import java.io.File;
import java.util.ArrayList;
import java.util.EnumSet;
import java.util.List;
import java.util.Map;
import java.util.Set;
import java.util.TreeMap;
import java.util.TreeSet;
import javax.lang.model.element.Modifier;
import javax.lang.model.type.TypeKind;
import javax.tools.JavaCompiler;
import javax.tools.StandardJavaFileManager;
import javax.tools.ToolProvider;

/** The rules of LANGUAGE.md that can be read off the source. */
public final class LanguageTest {
    private static final String SOURCE = "src/main/java/ChainNode.java";
    private static final Set<Tree.Kind> FORBIDDEN = EnumSet.of(
        Tree.Kind.THROW, Tree.Kind.TRY, Tree.Kind.CATCH, Tree.Kind.SYNCHRONIZED, Tree.Kind.ASSERT,
        Tree.Kind.INSTANCE_OF, Tree.Kind.LAMBDA_EXPRESSION, Tree.Kind.MEMBER_REFERENCE, Tree.Kind.NULL_LITERAL,
        Tree.Kind.STRING_LITERAL, Tree.Kind.FLOAT_LITERAL, Tree.Kind.DOUBLE_LITERAL, Tree.Kind.IMPORT,
        Tree.Kind.INTERFACE, Tree.Kind.ENUM, Tree.Kind.RECORD, Tree.Kind.ANNOTATION, Tree.Kind.ENHANCED_FOR_LOOP,
        Tree.Kind.WHILE_LOOP, Tree.Kind.DO_WHILE_LOOP);

    private static final Checks CHECKS = new Checks();
    private static final Map<String, Set<String>> CALLS = new TreeMap<>();
    private static final Set<String> PUBLIC = new TreeSet<>();
    private static final Set<String> PRIVATE = new TreeSet<>();
    private static int fields;

    public static void main(String[] args) throws Exception {
        JavaCompiler compiler = ToolProvider.getSystemJavaCompiler();
        try (StandardJavaFileManager files = compiler.getStandardFileManager(null, null, null)) {
            JavacTask task = (JavacTask) compiler.getTask(null, files, null, null, null,
                files.getJavaFileObjects(new File(SOURCE)));
            SourcePositions positions = Trees.instance(task).getSourcePositions();
            int units = 0;
            for (CompilationUnitTree unit : task.parse()) {
                units++;
                CHECKS.due("1: classes in the file", unit.getTypeDecls().size(), 1);
                new Scanner(unit, positions).scan(unit, null);
            }
            CHECKS.due("1: files", units, 1);
        }
        for (String name : PRIVATE) {
            CHECKS.due("1: private and public " + name, PUBLIC.contains(name), false);
        }
        CHECKS.due("10: fields within 40: " + fields, fields <= 40, true);
        for (Set<String> called : CALLS.values()) {
            for (String name : called) {
                CHECKS.due("3: a method of the class: " + name, CALLS.containsKey(name), true);
            }
        }
        for (String name : CALLS.keySet()) {
            CHECKS.due("8, 10: calls six deep at most from " + name, depth(name, new ArrayList<>()) <= 6, true);
        }
        CHECKS.end();
    }

    private static int depth(String name, List<String> above) {
        if (above.contains(name)) {
            CHECKS.due("8: recursion through " + above + " and " + name, true, false);
            return 0;
        }
        List<String> path = new ArrayList<>(above);
        path.add(name);
        int deepest = 0;
        for (String called : CALLS.getOrDefault(name, Set.of())) {
            int below = depth(called, path);
            deepest = below > deepest ? below : deepest;
        }
        return deepest + 1;
    }

    private static final class Scanner extends TreeScanner<Void, Void> {
        private final CompilationUnitTree unit;
        private final SourcePositions positions;
        private final Set<String> arrays = new TreeSet<>();
        private String method = "";
        private int classes;
        private boolean inField;

        Scanner(CompilationUnitTree unit, SourcePositions positions) {
            this.unit = unit;
            this.positions = positions;
        }

        private String place(Tree tree) {
            return "line " + unit.getLineMap().getLineNumber(positions.getStartPosition(unit, tree));
        }

        private void refuse(String rule, Tree tree) {
            CHECKS.due(rule + ", " + place(tree), true, false);
        }

        @Override
        public Void scan(Tree tree, Void nothing) {
            if (tree != null && FORBIDDEN.contains(tree.getKind())) {
                refuse("forbidden " + tree.getKind(), tree);
            }
            return super.scan(tree, nothing);
        }

        @Override
        public Void visitClass(ClassTree tree, Void nothing) {
            classes++;
            CHECKS.due("1: one class", classes, 1);
            for (Tree member : tree.getMembers()) {
                inField = member instanceof VariableTree;
                if (member instanceof VariableTree field) {
                    checkField(field);
                } else if (!(member instanceof MethodTree)) {
                    refuse("1, 5: a member that is no field and no method", member);
                }
                scan(member, nothing);
            }
            return null;
        }

        private void checkField(VariableTree field) {
            Set<Modifier> flags = field.getModifiers().getFlags();
            if (!flags.contains(Modifier.STATIC)) {
                fields++;
                CHECKS.due("1: private field, " + place(field), flags.contains(Modifier.PRIVATE), true);
            } else {
                String type = field.getType().toString();
                CHECKS.due("5: static " + type + ", " + place(field), type.equals("int") || type.equals("long"), true);
                CHECKS.due("5: a constant, " + place(field), flags.contains(Modifier.FINAL), true);
            }
            if (field.getType().getKind() == Tree.Kind.ARRAY_TYPE) {
                arrays.add(field.getName().toString());
            }
        }

        @Override
        public Void visitMethod(MethodTree tree, Void nothing) {
            method = tree.getName().toString();
            CALLS.put(method, new TreeSet<>());
            (tree.getModifiers().getFlags().contains(Modifier.PUBLIC) ? PUBLIC : PRIVATE).add(method);
            CHECKS.due("10: parameters of " + method, tree.getParameters().size() <= 7, true);
            long first = unit.getLineMap().getLineNumber(positions.getStartPosition(unit, tree));
            long last = unit.getLineMap().getLineNumber(positions.getEndPosition(unit, tree));
            CHECKS.due("10: lines of " + method, last - first < 60, true);
            if (tree.getReturnType() != null && tree.getReturnType().getKind() == Tree.Kind.ARRAY_TYPE) {
                refuse("4: an array is answered", tree);
            }
            return super.visitMethod(tree, nothing);
        }

        @Override
        public Void visitMethodInvocation(MethodInvocationTree tree, Void nothing) {
            if (tree.getMethodSelect() instanceof IdentifierTree name) {
                CALLS.get(method).add(name.getName().toString());
            } else {
                refuse("3: a call of another class", tree);
            }
            for (ExpressionTree argument : tree.getArguments()) {
                new TreeScanner<Void, Void>() {
                    @Override
                    public Void visitMethodInvocation(MethodInvocationTree inner, Void none) {
                        refuse("10: a call inside the arguments of a call", inner);
                        return null;
                    }
                }.scan(argument, null);
            }
            return super.visitMethodInvocation(tree, nothing);
        }

        /** The class has for loops alone, each with one counter that its body leaves as it is. */
        @Override
        public Void visitForLoop(ForLoopTree tree, Void nothing) {
            boolean one = tree.getInitializer().size() == 1 && tree.getUpdate().size() == 1;
            CHECKS.due("8: one counter, " + place(tree), one, true);
            CHECKS.due("8: a bound, " + place(tree), tree.getCondition() != null, true);
            if (one && tree.getInitializer().get(0) instanceof VariableTree counter) {
                String name = counter.getName().toString();
                String bounded = "(?s).*\\b" + name + " (<|<=|>|>=) .*";
                CHECKS.due("8: the counter against the bound, " + place(tree), tree.getCondition().toString().matches(bounded), true);
                refuseChangesOf(name, tree.getStatement());
            } else {
                refuse("8: a counter of the loop's own", tree);
            }
            return super.visitForLoop(tree, nothing);
        }

        private void refuseChangesOf(String name, Tree body) {
            new TreeScanner<Void, Void>() {
                @Override
                public Void visitAssignment(AssignmentTree inner, Void none) {
                    return changes(inner, inner.getVariable()) ? null : super.visitAssignment(inner, none);
                }

                @Override
                public Void visitCompoundAssignment(CompoundAssignmentTree inner, Void none) {
                    return changes(inner, inner.getVariable()) ? null : super.visitCompoundAssignment(inner, none);
                }

                @Override
                public Void visitUnary(UnaryTree inner, Void none) {
                    boolean steps = inner.getKind().toString().matches("(PRE|POST)FIX_.*");
                    return steps && changes(inner, inner.getExpression()) ? null : super.visitUnary(inner, none);
                }

                private boolean changes(Tree inner, Tree changed) {
                    boolean hit = changed.toString().equals(name);
                    if (hit) {
                        refuse("8: the counter " + name + " is changed in its loop", inner);
                    }
                    return hit;
                }
            }.scan(body, null);
        }

        @Override
        public Void visitNewArray(NewArrayTree tree, Void nothing) {
            CHECKS.due("4: made in a field, " + place(tree), inField && tree.getInitializers() == null, true);
            CHECKS.due("4: one dimension, " + place(tree), tree.getDimensions().size(), 1);
            for (ExpressionTree length : tree.getDimensions()) {
                boolean plain = length instanceof LiteralTree || length instanceof IdentifierTree;
                CHECKS.due("4: a length that is a literal or a constant, " + place(tree), plain, true);
            }
            return super.visitNewArray(tree, nothing);
        }

        @Override
        public Void visitNewClass(NewClassTree tree, Void nothing) {
            refuse("4: an object is made", tree);
            return null;
        }

        @Override
        public Void visitAssignment(AssignmentTree tree, Void nothing) {
            if (arrays.contains(tree.getVariable().toString())) {
                refuse("4: an array field is assigned", tree);
            }
            return super.visitAssignment(tree, nothing);
        }

        @Override
        public Void visitMemberSelect(MemberSelectTree tree, Void nothing) {
            refuse("3: a member of something else", tree);
            return null;
        }

        @Override
        public Void visitPrimitiveType(PrimitiveTypeTree tree, Void nothing) {
            TypeKind kind = tree.getPrimitiveTypeKind();
            CHECKS.due("2: type, " + place(tree), kind == TypeKind.FLOAT || kind == TypeKind.DOUBLE, false);
            return null;
        }

        @Override
        public Void visitVariable(VariableTree tree, Void nothing) {
            String type = tree.getType() == null ? "var" : tree.getType().toString();
            boolean allowed = type.matches("(int|long|short|byte|char|boolean)(\\[\\])?");
            CHECKS.due("2: type " + type + ", " + place(tree), allowed, true);
            return super.visitVariable(tree, nothing);
        }
    }
}
