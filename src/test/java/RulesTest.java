import com.sun.source.tree.*;
import com.sun.source.util.JavacTask;
import com.sun.source.util.TreePathScanner;
import com.sun.source.util.Trees;
import java.nio.file.Path;
import java.util.ArrayDeque;
import java.util.ArrayList;
import java.util.Deque;
import java.util.EnumSet;
import java.util.List;
import java.util.Map;
import java.util.Set;
import java.util.TreeMap;
import java.util.TreeSet;
import javax.lang.model.element.Element;
import javax.lang.model.element.ElementKind;
import javax.lang.model.element.Modifier;
import javax.lang.model.element.VariableElement;
import javax.tools.JavaCompiler;
import javax.tools.StandardJavaFileManager;
import javax.tools.ToolProvider;

/** Those rules of LANGUAGE.md that the syntax tree of the class shows, rule by rule. */
public final class RulesTest {
    private static final int MOST_DEEP = 8, MOST_LINES = 60, MOST_PARAMETERS = 7, MOST_CLASSES = 12, MOST_FIELDS = 20;
    /** The functions that look at an index, or a divisor, ahead of its use. */
    private static final Set<String> INDEXING = Set.of("at", "put");
    private static final Set<String> DIVIDING = Set.of("quotient");
    private static final Set<Tree.Kind> BANNED = EnumSet.of(Tree.Kind.THROW, Tree.Kind.TRY, Tree.Kind.CATCH, Tree.Kind.SYNCHRONIZED,
        Tree.Kind.ASSERT, Tree.Kind.LAMBDA_EXPRESSION, Tree.Kind.MEMBER_REFERENCE, Tree.Kind.IMPORT, Tree.Kind.PACKAGE);
    private static final Set<Tree.Kind> QUOTIENTS = EnumSet.of(Tree.Kind.DIVIDE, Tree.Kind.REMAINDER, Tree.Kind.DIVIDE_ASSIGNMENT,
        Tree.Kind.REMAINDER_ASSIGNMENT);

    private static int wrong = 0;

    private static void holds(boolean so, String what) {
        if (so) return;
        wrong++;
        System.out.println(what);
    }

    /** Looks at each node once; notes which function calls which, by class and name. */
    private static final class Scanner extends TreePathScanner<Void, Void> {
        final Map<String, Set<String>> calls = new TreeMap<>();
        final Deque<String> classes = new ArrayDeque<>();
        final List<String> loops = new ArrayList<>();
        final Trees trees;
        String function = "";
        int classesSeen = 0;

        Scanner(Trees trees) {
            this.trees = trees;
        }

        private String where(Tree tree) {
            CompilationUnitTree unit = getCurrentPath().getCompilationUnit();
            long line = unit.getLineMap().getLineNumber(trees.getSourcePositions().getStartPosition(unit, tree));
            return " (line " + line + ")";
        }

        private Element elementOf() {
            return trees.getElement(getCurrentPath());
        }

        @Override
        public Void scan(Tree tree, Void none) {
            if (tree != null) holds(!BANNED.contains(tree.getKind()), "rules 2, 6: " + tree.getKind());
            return super.scan(tree, none);
        }

        @Override
        public Void visitClass(ClassTree tree, Void none) {
            holds(function.isEmpty(), "rule 2: a class inside a function" + where(tree));
            Set<Modifier> modifiers = tree.getModifiers().getFlags();
            holds(classes.isEmpty() || modifiers.contains(Modifier.STATIC), "rule 2: not static" + where(tree));
            int fields = 0;
            for (Tree member : tree.getMembers()) {
                holds(member.getKind() != Tree.Kind.BLOCK, "rule 5: an initialiser block" + where(member));
                if (!(member instanceof VariableTree)) continue;
                Set<Modifier> held = ((VariableTree) member).getModifiers().getFlags();
                if (!held.contains(Modifier.STATIC)) fields++;
                holds(!held.contains(Modifier.STATIC) || held.contains(Modifier.FINAL), "rule 5: static, not final" + where(member));
            }
            holds(fields <= MOST_FIELDS, "rule 11: too many fields" + where(tree));
            classesSeen++;
            classes.push(tree.getSimpleName().toString());
            super.visitClass(tree, none);
            classes.pop();
            return null;
        }

        @Override
        public Void visitMethod(MethodTree tree, Void none) {
            function = classes.peek() + "." + tree.getName();
            boolean own = calls.put(function, new TreeSet<>()) == null;
            holds(own, "two functions of one name: " + function);
            holds(tree.getParameters().size() <= MOST_PARAMETERS, "rule 11: too many parameters" + where(tree));
            CompilationUnitTree unit = getCurrentPath().getCompilationUnit();
            LineMap lines = unit.getLineMap();
            long first = lines.getLineNumber(Math.max(0, trees.getSourcePositions().getStartPosition(unit, tree)));
            long last = lines.getLineNumber(Math.max(0, trees.getSourcePositions().getEndPosition(unit, tree)));
            holds(last - first < MOST_LINES, "rule 11: too long, " + function);
            super.visitMethod(tree, none);
            function = "";
            return null;
        }

        @Override
        public Void visitMethodInvocation(MethodInvocationTree tree, Void none) {
            Element called = elementOf();
            String owner = called.getEnclosingElement().getSimpleName().toString();
            if (!function.isEmpty()) calls.get(function).add(owner + "." + called.getSimpleName());
            return super.visitMethodInvocation(tree, none);
        }

        private void made(Tree tree) {
            holds(function.isEmpty(), "rule 12, the room: " + function + " makes an object at each call" + where(tree));
        }

        @Override
        public Void visitNewClass(NewClassTree tree, Void none) {
            made(tree);
            holds(tree.getClassBody() == null, "rule 2: an anonymous class" + where(tree));
            return super.visitNewClass(tree, none);
        }

        @Override
        public Void visitNewArray(NewArrayTree tree, Void none) {
            made(tree);
            return super.visitNewArray(tree, none);
        }

        private boolean isIn(Set<String> names) {
            return names.contains(function.substring(function.indexOf('.') + 1));
        }

        @Override
        public Void visitArrayAccess(ArrayAccessTree tree, Void none) {
            holds(isIn(INDEXING), "rule 7: an index that at or put does not look at" + where(tree));
            return super.visitArrayAccess(tree, none);
        }

        private boolean isConstant(Tree tree) {
            if (tree instanceof LiteralTree) return !"0".equals(tree.toString());
            Element named = trees.getElement(new com.sun.source.util.TreePath(getCurrentPath(), tree));
            if (named == null || named.getKind() != ElementKind.FIELD) return false;
            Object value = ((VariableElement) named).getConstantValue();
            return value instanceof Number && ((Number) value).longValue() != 0;
        }

        private void divides(Tree tree, Tree divisor) {
            if (!QUOTIENTS.contains(tree.getKind())) return;
            holds(isIn(DIVIDING) || isConstant(divisor), "rule 7: a divisor that is not looked at" + where(tree));
        }

        @Override
        public Void visitBinary(BinaryTree tree, Void none) {
            divides(tree, tree.getRightOperand());
            return super.visitBinary(tree, none);
        }

        @Override
        public Void visitCompoundAssignment(CompoundAssignmentTree tree, Void none) {
            divides(tree, tree.getExpression());
            return super.visitCompoundAssignment(tree, none);
        }

        /** A loop is a counter that goes up against a bound. */
        @Override
        public Void visitForLoop(ForLoopTree tree, Void none) {
            holds(tree.getInitializer().size() == 1 && tree.getUpdate().size() == 1, "rule 9: no counter" + where(tree));
            String update = tree.getUpdate().isEmpty() ? "" : tree.getUpdate().get(0).getExpression().toString();
            String counter = update.endsWith("++") ? update.substring(0, update.length() - 2) : "?";
            String condition = String.valueOf(tree.getCondition());
            holds(condition.startsWith(counter + " <"), "rule 9: no bound seen" + where(tree));
            return super.visitForLoop(tree, none);
        }

        @Override
        public Void visitWhileLoop(WhileLoopTree tree, Void none) {
            loops.add(function);
            return super.visitWhileLoop(tree, none);
        }

        @Override
        public Void visitDoWhileLoop(DoWhileLoopTree tree, Void none) {
            loops.add(function);
            return super.visitDoWhileLoop(tree, none);
        }

        @Override
        public Void visitTypeCast(TypeCastTree tree, Void none) {
            holds(tree.getType().getKind() == Tree.Kind.PRIMITIVE_TYPE, "rule 6: a cast of an object" + where(tree));
            return super.visitTypeCast(tree, none);
        }

        @Override
        public Void visitPrimitiveType(PrimitiveTypeTree tree, Void none) {
            String type = tree.getPrimitiveTypeKind().name();
            holds(Set.of("INT", "LONG", "BOOLEAN", "VOID").contains(type), "a type that no sum of the document needs: " + type);
            return super.visitPrimitiveType(tree, none);
        }
    }

    /** How deep calls go from a function on, itself counted; a function that calls itself has no end. */
    private static int depth(Map<String, Set<String>> calls, String function, Set<String> open) {
        if (!open.add(function)) {
            holds(false, "rule 8: " + function + " comes to call itself");
            return 0;
        }
        int deepest = 0;
        for (String called : calls.getOrDefault(function, Set.of())) deepest = Math.max(deepest, depth(calls, called, open));
        open.remove(function);
        return deepest + 1;
    }

    private static void look(Scanner seen) {
        for (String function : seen.calls.keySet()) {
            int deep = depth(seen.calls, function, new TreeSet<>());
            holds(deep <= MOST_DEEP, "rule 11: " + function + " goes " + deep + " calls deep");
        }
        holds(seen.classesSeen <= MOST_CLASSES, "rule 11: too many classes");
        holds(seen.loops.equals(List.of("Stretches.shiftFor")), "rule 9: loops to look at by eye: " + seen.loops);
        holds(seen.calls.containsKey("BoredPipes.round"), "nothing was looked at");
    }

    public static void main(String[] args) throws Exception {
        JavaCompiler compiler = ToolProvider.getSystemJavaCompiler();
        try (StandardJavaFileManager files = compiler.getStandardFileManager(null, null, null)) {
            JavacTask task = (JavacTask) compiler.getTask(null, files, null, List.of("-proc:none"), null,
                files.getJavaFileObjects(Path.of("src/main/java/BoredPipes.java")));
            Trees trees = Trees.instance(task);
            Scanner seen = new Scanner(trees);
            List<CompilationUnitTree> units = new ArrayList<>();
            for (CompilationUnitTree unit : task.parse()) units.add(unit);
            task.analyze();
            for (CompilationUnitTree unit : units) seen.scan(unit, null);
            holds(units.size() == 1 && units.get(0).getTypeDecls().size() == 1, "rule 1: not one class in one file");
            look(seen);
        }
        System.out.println(wrong == 0 ? "the rules hold" : wrong + " rules do not hold");
        if (wrong != 0) System.exit(1);
    }
}
