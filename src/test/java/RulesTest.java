import com.sun.source.tree.ArrayAccessTree;
import com.sun.source.tree.AssignmentTree;
import com.sun.source.tree.BinaryTree;
import com.sun.source.tree.ClassTree;
import com.sun.source.tree.CompilationUnitTree;
import com.sun.source.tree.CompoundAssignmentTree;
import com.sun.source.tree.ExpressionTree;
import com.sun.source.tree.ForLoopTree;
import com.sun.source.tree.IdentifierTree;
import com.sun.source.tree.LineMap;
import com.sun.source.tree.MemberSelectTree;
import com.sun.source.tree.MethodInvocationTree;
import com.sun.source.tree.MethodTree;
import com.sun.source.tree.NewArrayTree;
import com.sun.source.tree.NewClassTree;
import com.sun.source.tree.ParenthesizedTree;
import com.sun.source.tree.StatementTree;
import com.sun.source.tree.Tree;
import com.sun.source.tree.UnaryTree;
import com.sun.source.tree.VariableTree;
import com.sun.source.util.JavacTask;
import com.sun.source.util.TreePath;
import com.sun.source.util.TreePathScanner;
import com.sun.source.util.Trees;
import java.io.File;
import java.io.IOException;
import java.util.ArrayDeque;
import java.util.Deque;
import java.util.HashMap;
import java.util.HashSet;
import java.util.List;
import java.util.Map;
import java.util.Set;
import java.util.TreeSet;
import javax.lang.model.element.Element;
import javax.lang.model.element.ElementKind;
import javax.lang.model.element.Modifier;
import javax.tools.JavaCompiler;
import javax.tools.StandardJavaFileManager;
import javax.tools.ToolProvider;

/** The rules of LANGUAGE.md that can be read from the source, as javac reads it; started in the project's folder. */
public final class RulesTest {
    private static final Check c = new Check();

    /** What stands in the source: everything else is refused. */
    private static final Set<Tree.Kind> KINDS = Set.of(
        Tree.Kind.COMPILATION_UNIT, Tree.Kind.CLASS, Tree.Kind.METHOD, Tree.Kind.VARIABLE, Tree.Kind.MODIFIERS,
        Tree.Kind.PRIMITIVE_TYPE, Tree.Kind.ARRAY_TYPE, Tree.Kind.IDENTIFIER, Tree.Kind.MEMBER_SELECT, Tree.Kind.BLOCK,
        Tree.Kind.RETURN, Tree.Kind.IF, Tree.Kind.FOR_LOOP, Tree.Kind.BREAK, Tree.Kind.SWITCH, Tree.Kind.CASE,
        Tree.Kind.EXPRESSION_STATEMENT, Tree.Kind.METHOD_INVOCATION, Tree.Kind.NEW_CLASS, Tree.Kind.NEW_ARRAY,
        Tree.Kind.PARENTHESIZED, Tree.Kind.CONDITIONAL_EXPRESSION, Tree.Kind.TYPE_CAST, Tree.Kind.ARRAY_ACCESS,
        Tree.Kind.ASSIGNMENT, Tree.Kind.PLUS_ASSIGNMENT, Tree.Kind.DIVIDE_ASSIGNMENT, Tree.Kind.OR_ASSIGNMENT,
        Tree.Kind.UNSIGNED_RIGHT_SHIFT_ASSIGNMENT, Tree.Kind.POSTFIX_INCREMENT, Tree.Kind.POSTFIX_DECREMENT,
        Tree.Kind.UNARY_MINUS, Tree.Kind.LOGICAL_COMPLEMENT, Tree.Kind.PLUS, Tree.Kind.MINUS, Tree.Kind.MULTIPLY,
        Tree.Kind.DIVIDE, Tree.Kind.REMAINDER, Tree.Kind.LEFT_SHIFT, Tree.Kind.UNSIGNED_RIGHT_SHIFT, Tree.Kind.AND,
        Tree.Kind.LESS_THAN, Tree.Kind.LESS_THAN_EQUAL, Tree.Kind.GREATER_THAN, Tree.Kind.GREATER_THAN_EQUAL,
        Tree.Kind.EQUAL_TO, Tree.Kind.NOT_EQUAL_TO, Tree.Kind.CONDITIONAL_AND, Tree.Kind.CONDITIONAL_OR,
        Tree.Kind.INT_LITERAL, Tree.Kind.CHAR_LITERAL, Tree.Kind.BOOLEAN_LITERAL);
    private static final Set<String> LIBRARY = Set.of("System.arraycopy", "Math.min", "Math.max", "Array.clone");
    private static final Set<String> PLAIN_TYPES = Set.of("int", "long", "char", "boolean", "void");

    private final Trees trees;
    private final CompilationUnitTree unit;
    private final Map<String, Set<String>> calls = new HashMap<>();
    private final Set<String> classes = new TreeSet<>();

    private RulesTest(Trees trees, CompilationUnitTree unit) {
        this.trees = trees;
        this.unit = unit;
    }

    public static void main(String[] args) throws IOException {
        JavaCompiler compiler = ToolProvider.getSystemJavaCompiler();
        try (StandardJavaFileManager files = compiler.getStandardFileManager(null, null, null)) {
            JavacTask task = (JavacTask) compiler.getTask(null, files, null, List.of("-proc:none"), null,
                files.getJavaFileObjects(new File("src/main/java/PickupYard.java")));
            CompilationUnitTree unit = task.parse().iterator().next();
            task.analyze();
            new RulesTest(Trees.instance(task), unit).all();
        }
        c.end("RulesTest");
    }

    private void all() {
        c.due("packages and imports", unit.getImports().size() + (unit.getPackageName() == null ? 0 : 1), 0);
        c.due("classes in the file, beside those inside", unit.getTypeDecls().size(), 1);
        new Scanner().scan(unit, null);
        c.holds("at most twelve classes: " + classes, classes.size() <= 12);
        for (String method : calls.keySet()) {
            int depth = depth(method, new ArrayDeque<>());
            c.holds("calls go at most eight deep: " + method + " " + depth, depth <= 8);
        }
        c.holds("methods were found", calls.size() > 100);
    }

    /** How many calls stand open at once, this one being the first; a recursion counts as a thousand. */
    private int depth(String method, Deque<String> open) {
        if (open.contains(method)) {
            return 1000;
        }
        open.push(method);
        int deepest = 0;
        for (String called : calls.getOrDefault(method, Set.of())) {
            deepest = Math.max(deepest, depth(called, open));
        }
        open.pop();
        return deepest + 1;
    }

    private final class Scanner extends TreePathScanner<Void, Void> {
        private String method = "";

        private String where(Tree tree) {
            LineMap lines = unit.getLineMap();
            return "line " + lines.getLineNumber(trees.getSourcePositions().getStartPosition(unit, tree)) + ": ";
        }

        private Element element(Tree tree) {
            return trees.getElement(new TreePath(getCurrentPath(), tree));
        }

        private String named(Element method) {
            return method.getEnclosingElement().getSimpleName() + "." + method.getSimpleName();
        }

        @Override
        public Void scan(Tree tree, Void nothing) {
            if (tree != null) {
                boolean allowed = KINDS.contains(tree.getKind());
                c.holds(allowed ? "a kind" : where(tree) + "of a kind that is not allowed: " + tree.getKind(), allowed);
            }
            return super.scan(tree, nothing);
        }

        @Override
        public Void visitClass(ClassTree tree, Void nothing) {
            classes.add(tree.getSimpleName().toString());
            boolean outer = getCurrentPath().getParentPath().getLeaf() == unit;
            Tree parent = getCurrentPath().getParentPath().getLeaf();
            Set<Modifier> modifiers = tree.getModifiers().getFlags();
            c.holds(where(tree) + "a class of the file, or one inside it", outer || parent.getKind() == Tree.Kind.CLASS);
            c.holds(where(tree) + "a class inside is static, and private", outer
                || modifiers.contains(Modifier.STATIC) && modifiers.contains(Modifier.PRIVATE));
            c.holds(where(tree) + "extends nothing", tree.getExtendsClause() == null && tree.getImplementsClause().isEmpty());
            int fields = 0;
            for (Tree member : tree.getMembers()) {
                c.holds(where(member) + "no initialiser block", member.getKind() != Tree.Kind.BLOCK);
                if (member instanceof VariableTree) {
                    boolean isStatic = ((VariableTree) member).getModifiers().getFlags().contains(Modifier.STATIC);
                    fields += isStatic ? 0 : 1;
                }
            }
            c.holds(where(tree) + "at most twenty fields: " + fields, fields <= 20);
            return super.visitClass(tree, nothing);
        }

        @Override
        public Void visitMethod(MethodTree tree, Void nothing) {
            method = named(trees.getElement(getCurrentPath()));
            calls.putIfAbsent(method, new HashSet<>());
            LineMap lines = unit.getLineMap();
            long first = lines.getLineNumber(trees.getSourcePositions().getStartPosition(unit, tree));
            long last = lines.getLineNumber(trees.getSourcePositions().getEndPosition(unit, tree));
            c.holds(where(tree) + "at most seven parameters", tree.getParameters().size() <= 7);
            c.holds(where(tree) + "at most sixty lines", last - first < 60);
            c.holds(where(tree) + "no annotation", tree.getModifiers().getAnnotations().isEmpty());
            c.holds(where(tree) + "throws nothing, has no type of its own", tree.getThrows().isEmpty()
                && tree.getTypeParameters().isEmpty());
            super.visitMethod(tree, nothing);
            method = "";
            return null;
        }

        @Override
        public Void visitVariable(VariableTree tree, Void nothing) {
            Element element = trees.getElement(getCurrentPath());
            String type = element.asType().toString();
            String plain = type.replace("[]", "").replace("PickupYard.", "");
            c.holds(where(tree) + "a type that is allowed: " + type, !type.contains("[][]")
                && (PLAIN_TYPES.contains(plain) || trees.getElement(getCurrentPath()).asType().toString().startsWith("PickupYard.")));
            if (element.getModifiers().contains(Modifier.STATIC)) {
                boolean written = tree.getInitializer() instanceof NewArrayTree
                    ? ((NewArrayTree) tree.getInitializer()).getInitializers() != null : PLAIN_TYPES.contains(type);
                c.holds(where(tree) + "a static field is final, and a constant", written
                    && element.getModifiers().contains(Modifier.FINAL));
            }
            return super.visitVariable(tree, nothing);
        }

        @Override
        public Void visitMethodInvocation(MethodInvocationTree tree, Void nothing) {
            Element called = trees.getElement(getCurrentPath());
            String name = named(called);
            boolean own = classes.contains(called.getEnclosingElement().getSimpleName().toString())
                || called.getEnclosingElement().toString().startsWith("PickupYard");
            // The constructor of Object, which javac calls in each constructor.
            boolean above = name.equals("Object.<init>");
            c.holds(where(tree) + "a call of its own, or of what is allowed of the library: " + name,
                own || above || LIBRARY.contains(name));
            if (own) {
                callsFromHere().add(name);
            }
            return super.visitMethodInvocation(tree, nothing);
        }

        /** What the method calls in which we are; the initialiser of a field is part of the constructor. */
        private Set<String> callsFromHere() {
            TreePath path = getCurrentPath();
            while (path.getLeaf().getKind() != Tree.Kind.CLASS) {
                path = path.getParentPath();
            }
            String constructor = ((ClassTree) path.getLeaf()).getSimpleName() + ".<init>";
            return calls.computeIfAbsent(method.isEmpty() ? constructor : method, m -> new HashSet<>());
        }

        private boolean inConstructor() {
            return method.isEmpty() || method.endsWith(".<init>");
        }

        @Override
        public Void visitNewClass(NewClassTree tree, Void nothing) {
            c.holds(where(tree) + "objects are made in constructors alone", inConstructor());
            c.holds(where(tree) + "no anonymous class", tree.getClassBody() == null);
            callsFromHere().add(tree.getIdentifier() + ".<init>");
            c.holds(where(tree) + "of its own class", classes.contains(tree.getIdentifier().toString())
                || element(tree.getIdentifier()).toString().startsWith("PickupYard."));
            return super.visitNewClass(tree, nothing);
        }

        @Override
        public Void visitNewArray(NewArrayTree tree, Void nothing) {
            c.holds(where(tree) + "arrays are made in constructors alone", inConstructor());
            return super.visitNewArray(tree, nothing);
        }

        @Override
        public Void visitAssignment(AssignmentTree tree, Void nothing) {
            notStatic(tree.getVariable());
            return super.visitAssignment(tree, nothing);
        }

        @Override
        public Void visitCompoundAssignment(CompoundAssignmentTree tree, Void nothing) {
            notStatic(tree.getVariable());
            boolean divides = tree.getKind() == Tree.Kind.DIVIDE_ASSIGNMENT;
            c.holds(where(tree) + "divides by a constant", !divides || isConstant(tree.getExpression()));
            return super.visitCompoundAssignment(tree, nothing);
        }

        @Override
        public Void visitUnary(UnaryTree tree, Void nothing) {
            if (tree.getKind() == Tree.Kind.POSTFIX_INCREMENT || tree.getKind() == Tree.Kind.POSTFIX_DECREMENT) {
                notStatic(tree.getExpression());
            }
            return super.visitUnary(tree, nothing);
        }

        private void notStatic(Tree changed) {
            Tree base = changed instanceof ArrayAccessTree ? ((ArrayAccessTree) changed).getExpression() : changed;
            Element element = element(base);
            c.holds(where(changed) + "nothing static is changed", element != null
                && !element.getModifiers().contains(Modifier.STATIC));
        }

        @Override
        public Void visitBinary(BinaryTree tree, Void nothing) {
            boolean divides = tree.getKind() == Tree.Kind.DIVIDE || tree.getKind() == Tree.Kind.REMAINDER;
            c.holds(where(tree) + "divides by a constant", !divides || isConstant(tree.getRightOperand()));
            return super.visitBinary(tree, nothing);
        }

        /** A number, or a sum of numbers that are static and final. */
        private boolean isConstant(Tree tree) {
            if (tree instanceof ParenthesizedTree) {
                return isConstant(((ParenthesizedTree) tree).getExpression());
            }
            if (tree.getKind() == Tree.Kind.PLUS) {
                return isConstant(((BinaryTree) tree).getLeftOperand()) && isConstant(((BinaryTree) tree).getRightOperand());
            }
            Element element = tree instanceof IdentifierTree ? element(tree) : null;
            return tree.getKind() == Tree.Kind.INT_LITERAL
                || element != null && element.getModifiers().containsAll(Set.of(Modifier.STATIC, Modifier.FINAL));
        }

        /** A loop counts up from where its head says, to a bound in its head; the counter is changed there alone. */
        @Override
        public Void visitForLoop(ForLoopTree tree, Void nothing) {
            c.due(where(tree) + "counters", tree.getInitializer().size(), 1);
            VariableTree counter = (VariableTree) tree.getInitializer().get(0);
            String name = counter.getName().toString();
            c.holds(where(tree) + "has a bound", hasBound(tree.getCondition(), name));
            c.holds(where(tree) + "counts up", tree.getUpdate().size() == 1
                && tree.getUpdate().get(0).getExpression().toString().equals(name + "++"));
            c.holds(where(tree) + "changes its counter in its head alone", !changes(tree.getStatement(), name));
            return super.visitForLoop(tree, nothing);
        }

        /** Whether one of the parts joined by && says that the counter is below something that the loop leaves as it is. */
        private boolean hasBound(ExpressionTree condition, String counter) {
            if (condition instanceof BinaryTree) {
                BinaryTree both = (BinaryTree) condition;
                if (both.getKind() == Tree.Kind.CONDITIONAL_AND) {
                    return hasBound(both.getLeftOperand(), counter) || hasBound(both.getRightOperand(), counter);
                }
                ForLoopTree loop = (ForLoopTree) getCurrentPath().getLeaf();
                return (both.getKind() == Tree.Kind.LESS_THAN || both.getKind() == Tree.Kind.LESS_THAN_EQUAL)
                    && both.getLeftOperand().toString().equals(counter)
                    && !changes(loop.getStatement(), both.getRightOperand().toString());
            }
            return false;
        }

        private boolean changes(StatementTree body, String name) {
            boolean[] found = {false};
            new TreePathScanner<Void, Void>() {
                @Override
                public Void visitAssignment(AssignmentTree tree, Void nothing) {
                    found[0] |= tree.getVariable().toString().equals(name);
                    return super.visitAssignment(tree, nothing);
                }

                @Override
                public Void visitCompoundAssignment(CompoundAssignmentTree tree, Void nothing) {
                    found[0] |= tree.getVariable().toString().equals(name);
                    return super.visitCompoundAssignment(tree, nothing);
                }

                @Override
                public Void visitUnary(UnaryTree tree, Void nothing) {
                    boolean counts = tree.getKind() == Tree.Kind.POSTFIX_INCREMENT || tree.getKind() == Tree.Kind.POSTFIX_DECREMENT;
                    found[0] |= counts && tree.getExpression().toString().equals(name);
                    return super.visitUnary(tree, nothing);
                }
            }.scan(new TreePath(getCurrentPath(), body), null);
            return found[0];
        }

        @Override
        public Void visitMemberSelect(MemberSelectTree tree, Void nothing) {
            Element element = trees.getElement(getCurrentPath());
            boolean named = element != null && (element.getKind() == ElementKind.FIELD || element.getKind() == ElementKind.METHOD
                || element.getKind() == ElementKind.CLASS);
            c.holds(where(tree) + "a field or a method", named);
            return super.visitMemberSelect(tree, nothing);
        }
    }
}
