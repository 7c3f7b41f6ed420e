import com.sun.source.tree.*;
import com.sun.source.util.JavacTask;
import com.sun.source.util.TreePath;
import com.sun.source.util.TreePathScanner;
import com.sun.source.util.TreeScanner;
import com.sun.source.util.Trees;
import java.nio.file.Path;
import java.util.ArrayList;
import java.util.EnumSet;
import java.util.HashMap;
import java.util.HashSet;
import java.util.List;
import java.util.Map;
import java.util.Set;
import java.util.TreeSet;
import javax.lang.model.element.Element;
import javax.lang.model.element.ExecutableElement;
import javax.lang.model.element.Modifier;
import javax.lang.model.element.VariableElement;
import javax.lang.model.type.TypeKind;
import javax.lang.model.type.TypeMirror;
import javax.tools.JavaCompiler;
import javax.tools.StandardJavaFileManager;
import javax.tools.ToolProvider;

// The rules of LANGUAGE.md, read off the tree that the compiler makes of the source. Where a rule leaves more than the
// class needs, the test asks for what the class needs. Rule 7 is left to the tests that make the calls.
public final class LanguageTest {
    private static final Path SOURCE = Path.of("src/main/java/IntegerGrids.java");
    private static final int MOST_PARAMETERS = 7;
    private static final int MOST_LINES = 60;
    private static final int MOST_DEPTH = 6;
    private static final int MOST_FIELDS = 40;

    private static final Set<Tree.Kind> BARRED = EnumSet.of(
        Tree.Kind.THROW, Tree.Kind.TRY, Tree.Kind.SYNCHRONIZED, Tree.Kind.ASSERT, Tree.Kind.INSTANCE_OF,
        Tree.Kind.LAMBDA_EXPRESSION, Tree.Kind.MEMBER_REFERENCE, Tree.Kind.MEMBER_SELECT, Tree.Kind.NEW_CLASS,
        Tree.Kind.NULL_LITERAL, Tree.Kind.STRING_LITERAL, Tree.Kind.FLOAT_LITERAL, Tree.Kind.DOUBLE_LITERAL,
        Tree.Kind.ANNOTATION, Tree.Kind.ENHANCED_FOR_LOOP, Tree.Kind.DO_WHILE_LOOP);
    private static final Set<TypeKind> NUMBERS = EnumSet.of(
        TypeKind.INT, TypeKind.LONG, TypeKind.SHORT, TypeKind.BYTE, TypeKind.CHAR, TypeKind.BOOLEAN);
    private static final Set<Modifier> PLAIN = EnumSet.of(Modifier.PUBLIC, Modifier.PRIVATE, Modifier.STATIC);

    private static int wrong = 0;
    private static CompilationUnitTree unit;
    private static Trees trees;
    private static final Map<String, Set<String>> CALLED = new HashMap<>();

    private static void due(int rule, String what, boolean holds) {
        if (!holds) {
            wrong++;
            System.out.println("rule " + rule + " does not hold: " + what);
        }
    }

    private static TypeMirror typeOf(Tree tree) {
        return trees.getTypeMirror(TreePath.getPath(unit, tree));
    }

    private static boolean isArray(Tree tree) {
        TypeMirror type = typeOf(tree);
        return type != null && type.getKind() == TypeKind.ARRAY;
    }

    // A number type, or a one-dimensional array of one.
    private static boolean isAllowed(TypeMirror type) {
        if (type.getKind() == TypeKind.ARRAY) {
            return NUMBERS.contains(((javax.lang.model.type.ArrayType) type).getComponentType().getKind());
        }
        return NUMBERS.contains(type.getKind());
    }

    // ---- rules 2 to 6: what stands anywhere in the source ----

    private static final class Everything extends TreePathScanner<Void, Void> {
        @Override
        public Void scan(Tree tree, Void nothing) {
            if (tree != null) {
                due(6, tree.getKind() + ": " + tree, !BARRED.contains(tree.getKind()));
            }
            return super.scan(tree, nothing);
        }

        @Override
        public Void visitVariable(VariableTree v, Void nothing) {
            due(2, "the type of " + v, isAllowed(typeOf(v)));
            return super.visitVariable(v, nothing);
        }

        @Override
        public Void visitNewArray(NewArrayTree made, Void nothing) {
            TreePath above = getCurrentPath().getParentPath();
            boolean inField = above.getLeaf().getKind() == Tree.Kind.VARIABLE
                && above.getParentPath().getLeaf().getKind() == Tree.Kind.CLASS;
            due(4, "made in a field's initialiser: " + made, inField);
            due(4, "made with one length: " + made,
                made.getInitializers() == null && made.getDimensions().size() == 1 && isLength(made.getDimensions()));
            return super.visitNewArray(made, nothing);
        }

        private boolean isLength(List<? extends ExpressionTree> dimensions) {
            ExpressionTree length = dimensions.get(0);
            Object value = null;
            if (length instanceof LiteralTree literal) {
                value = literal.getValue();
            } else if (length instanceof IdentifierTree) {
                Element element = trees.getElement(TreePath.getPath(unit, length));
                value = element instanceof VariableElement v ? v.getConstantValue() : null;
            }
            return value instanceof Integer number && number >= 1;
        }

        @Override
        public Void visitAssignment(AssignmentTree a, Void nothing) {
            due(4, "no array is assigned: " + a, !isArray(a.getVariable()));
            return super.visitAssignment(a, nothing);
        }

        @Override
        public Void visitBinary(BinaryTree b, Void nothing) {
            due(4, "no array is compared: " + b, !isArray(b.getLeftOperand()) && !isArray(b.getRightOperand()));
            return super.visitBinary(b, nothing);
        }

        @Override
        public Void visitTypeCast(TypeCastTree c, Void nothing) {
            due(6, "a cast between number types: " + c, NUMBERS.contains(typeOf(c.getType()).getKind()));
            return super.visitTypeCast(c, nothing);
        }
    }

    // ---- rules 1 and 5: the class and its members ----

    private static void members(ClassTree face) {
        int fields = 0;
        for (Tree member : face.getMembers()) {
            if (member instanceof VariableTree field) {
                Set<Modifier> modifiers = field.getModifiers().getFlags();
                if (modifiers.contains(Modifier.STATIC)) {
                    VariableElement element = (VariableElement) trees.getElement(TreePath.getPath(unit, field));
                    TypeKind kind = typeOf(field).getKind();
                    due(5, "a constant of int or long: " + field, element.getConstantValue() != null
                        && (kind == TypeKind.INT || kind == TypeKind.LONG));
                } else {
                    due(1, "a private field: " + field, modifiers.contains(Modifier.PRIVATE));
                    fields++;
                }
            } else {
                due(1, "a field, a method or the constructor: " + member, member instanceof MethodTree);
            }
        }
        due(10, "at most " + MOST_FIELDS + " fields, not " + fields, fields <= MOST_FIELDS);
    }

    // ---- rules 4, 8 and 10: the methods ----

    private static void methods(ClassTree face) {
        Set<String> names = new HashSet<>();
        for (Tree member : face.getMembers()) {
            if (member instanceof MethodTree method) {
                due(1, "one method of the name " + method.getName(), names.add(method.getName().toString()));
            }
        }
        for (Tree member : face.getMembers()) {
            if (member instanceof MethodTree method) {
                method(method, names);
            }
        }
        for (String name : names) {
            due(10, "calls at most " + MOST_DEPTH + " deep from " + name, depth(name, new TreeSet<>()) <= MOST_DEPTH);
        }
    }

    private static void method(MethodTree method, Set<String> names) {
        String name = method.getName().toString();
        due(10, "parameters of " + name, method.getParameters().size() <= MOST_PARAMETERS);
        due(10, "length of " + name, lines(method) <= MOST_LINES);
        due(6, "no throws: " + name, method.getThrows().isEmpty());
        due(6, "plainly declared: " + name, PLAIN.containsAll(method.getModifiers().getFlags()));
        ExecutableElement element = (ExecutableElement) trees.getElement(TreePath.getPath(unit, method));
        due(4, "no array made by a call of " + name, !element.isVarArgs());
        if (method.getReturnType() != null) {
            TypeKind kind = typeOf(method.getReturnType()).getKind();
            due(2, "the type of " + name, kind == TypeKind.VOID || NUMBERS.contains(kind));
        }
        Set<String> called = new TreeSet<>();
        new TreeScanner<Void, Void>() {
            @Override
            public Void visitMethodInvocation(MethodInvocationTree call, Void nothing) {
                String callee = call.getMethodSelect().toString();
                // The compiler itself puts super() into the constructor.
                if (!callee.equals("super")) {
                    due(3, "a method of the class: " + call, names.contains(callee));
                    called.add(callee);
                }
                for (ExpressionTree argument : call.getArguments()) {
                    due(10, "no call inside arguments: " + call, !hasCall(argument));
                }
                return super.visitMethodInvocation(call, nothing);
            }

            @Override
            public Void visitForLoop(ForLoopTree loop, Void nothing) {
                due(8, "the end of a loop in " + name + ": " + loop, ends(loop, loop.getCondition()));
                return super.visitForLoop(loop, nothing);
            }

            @Override
            public Void visitWhileLoop(WhileLoopTree loop, Void nothing) {
                due(8, "the end of a loop in " + name + ": " + loop, ends(loop, loop.getCondition()));
                return super.visitWhileLoop(loop, nothing);
            }
        }.scan(method.getBody(), null);
        CALLED.put(name, called);
    }

    private static long lines(MethodTree method) {
        long start = trees.getSourcePositions().getStartPosition(unit, method);
        long end = trees.getSourcePositions().getEndPosition(unit, method);
        // The compiler would give a method it made itself no end.
        return end < 0 ? 0 : unit.getLineMap().getLineNumber(end) - unit.getLineMap().getLineNumber(start) + 1;
    }

    private static boolean hasCall(Tree tree) {
        boolean[] found = {false};
        new TreeScanner<Void, Void>() {
            @Override
            public Void visitMethodInvocation(MethodInvocationTree call, Void nothing) {
                found[0] = true;
                return null;
            }
        }.scan(tree, null);
        return found[0];
    }

    private static int depth(String name, Set<String> above) {
        due(8, "no recursion: " + name + " below " + above, !above.contains(name));
        if (above.contains(name)) {
            return 0;
        }
        Set<String> path = new TreeSet<>(above);
        path.add(name);
        int deepest = 0;
        for (String callee : CALLED.getOrDefault(name, Set.of())) {
            deepest = Math.max(deepest, depth(callee, path));
        }
        return deepest + 1;
    }

    // ---- rule 8: a counter against a bound ----

    private static boolean ends(Tree loop, ExpressionTree condition) {
        if (condition == null) {
            return false;
        }
        if (condition instanceof ParenthesizedTree inner) {
            return ends(loop, inner.getExpression());
        }
        if (condition.getKind() == Tree.Kind.CONDITIONAL_AND) {
            BinaryTree both = (BinaryTree) condition;
            return ends(loop, both.getLeftOperand()) || ends(loop, both.getRightOperand());
        }
        if (!(condition instanceof BinaryTree test) || !(test.getLeftOperand() instanceof IdentifierTree counter)) {
            return false;
        }
        Tree.Kind step = switch (test.getKind()) {
            case LESS_THAN, LESS_THAN_EQUAL -> Tree.Kind.POSTFIX_INCREMENT;
            case GREATER_THAN, GREATER_THAN_EQUAL -> Tree.Kind.POSTFIX_DECREMENT;
            default -> null;
        };
        String name = counter.getName().toString();
        return step != null && changesOf(name, loop).equals(List.of(step)) && stepsEachTime(loop, name)
            && boundStands(test.getRightOperand(), loop);
    }

    // Behind a condition, or after a continue, the counter's only change might be left out.
    private static boolean stepsEachTime(Tree loop, String counter) {
        List<? extends StatementTree> always;
        if (loop instanceof ForLoopTree counted) {
            always = counted.getUpdate();
        } else {
            always = ((BlockTree) ((WhileLoopTree) loop).getStatement()).getStatements();
        }
        boolean found = false;
        for (StatementTree statement : always) {
            found |= statement instanceof ExpressionStatementTree e && e.getExpression() instanceof UnaryTree step
                && step.getExpression().toString().equals(counter);
        }
        return found && (loop instanceof ForLoopTree || !loop.toString().contains("continue"));
    }

    private static boolean boundStands(ExpressionTree bound, Tree loop) {
        boolean[] stands = {true};
        new TreeScanner<Void, Void>() {
            @Override
            public Void visitIdentifier(IdentifierTree id, Void nothing) {
                stands[0] &= changesOf(id.getName().toString(), loop).isEmpty();
                return null;
            }

            @Override
            public Void visitMethodInvocation(MethodInvocationTree call, Void nothing) {
                stands[0] = false;
                return null;
            }
        }.scan(bound, null);
        return stands[0];
    }

    // How the variable is changed inside the loop, its start in the head of a for left out.
    private static List<Tree.Kind> changesOf(String name, Tree loop) {
        List<Tree.Kind> changes = new ArrayList<>();
        TreeScanner<Void, Void> scanner = new TreeScanner<>() {
            private void note(ExpressionTree target, Tree change) {
                if (target.toString().equals(name)) {
                    changes.add(change.getKind());
                }
            }

            @Override
            public Void visitAssignment(AssignmentTree a, Void nothing) {
                note(a.getVariable(), a);
                return super.visitAssignment(a, nothing);
            }

            @Override
            public Void visitCompoundAssignment(CompoundAssignmentTree a, Void nothing) {
                note(a.getVariable(), a);
                return super.visitCompoundAssignment(a, nothing);
            }

            @Override
            public Void visitUnary(UnaryTree u, Void nothing) {
                if (u.getKind() != Tree.Kind.UNARY_MINUS && u.getKind() != Tree.Kind.LOGICAL_COMPLEMENT) {
                    note(u.getExpression(), u);
                }
                return super.visitUnary(u, nothing);
            }
        };
        if (loop instanceof ForLoopTree counted) {
            scanner.scan(counted.getCondition(), null);
            scanner.scan(counted.getUpdate(), null);
            scanner.scan(counted.getStatement(), null);
        } else {
            scanner.scan(loop, null);
        }
        return changes;
    }

    public static void main(String[] args) throws Exception {
        JavaCompiler compiler = ToolProvider.getSystemJavaCompiler();
        StandardJavaFileManager files = compiler.getStandardFileManager(null, null, null);
        JavacTask task = (JavacTask) compiler.getTask(
            null, files, null, List.of("-proc:none"), null, files.getJavaFileObjects(SOURCE));
        unit = task.parse().iterator().next();
        task.analyze();
        trees = Trees.instance(task);
        due(1, "one class", unit.getTypeDecls().size() == 1);
        due(1, "no package line", unit.getPackageName() == null);
        due(3, "no import", unit.getImports().isEmpty());
        ClassTree face = (ClassTree) unit.getTypeDecls().get(0);
        members(face);
        methods(face);
        new Everything().scan(unit, null);
        if (wrong != 0) {
            System.exit(1);
        }
    }
}
