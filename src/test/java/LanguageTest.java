import com.sun.source.tree.ArrayAccessTree;
import com.sun.source.tree.ArrayTypeTree;
import com.sun.source.tree.AssertTree;
import com.sun.source.tree.BinaryTree;
import com.sun.source.tree.BlockTree;
import com.sun.source.tree.CatchTree;
import com.sun.source.tree.ClassTree;
import com.sun.source.tree.CompilationUnitTree;
import com.sun.source.tree.CompoundAssignmentTree;
import com.sun.source.tree.DoWhileLoopTree;
import com.sun.source.tree.EnhancedForLoopTree;
import com.sun.source.tree.ExpressionTree;
import com.sun.source.tree.ForLoopTree;
import com.sun.source.tree.ImportTree;
import com.sun.source.tree.InstanceOfTree;
import com.sun.source.tree.LambdaExpressionTree;
import com.sun.source.tree.LineMap;
import com.sun.source.tree.LiteralTree;
import com.sun.source.tree.MemberReferenceTree;
import com.sun.source.tree.MethodInvocationTree;
import com.sun.source.tree.MethodTree;
import com.sun.source.tree.NewArrayTree;
import com.sun.source.tree.NewClassTree;
import com.sun.source.tree.PackageTree;
import com.sun.source.tree.PrimitiveTypeTree;
import com.sun.source.tree.SynchronizedTree;
import com.sun.source.tree.ThrowTree;
import com.sun.source.tree.Tree;
import com.sun.source.tree.TryTree;
import com.sun.source.tree.TypeCastTree;
import com.sun.source.tree.VariableTree;
import com.sun.source.tree.WhileLoopTree;
import com.sun.source.util.JavacTask;
import com.sun.source.util.TreePathScanner;
import com.sun.source.util.Trees;
import java.nio.file.Files;
import java.nio.file.Path;
import java.util.ArrayList;
import java.util.HashSet;
import java.util.LinkedHashMap;
import java.util.List;
import java.util.Map;
import java.util.Set;
import java.util.TreeSet;
import javax.lang.model.element.Element;
import javax.lang.model.element.ElementKind;
import javax.lang.model.element.ExecutableElement;
import javax.lang.model.element.Modifier;
import javax.lang.model.element.TypeElement;
import javax.lang.model.element.VariableElement;
import javax.tools.JavaCompiler;
import javax.tools.StandardJavaFileManager;
import javax.tools.ToolProvider;

/** The rules of LANGUAGE.md by their numbers, on the tree of the program as the compiler reads it. */
public final class LanguageTest {
    private static final Path CODE = Path.of("src/main/java/LetterTables.java");
    private static final Set<String> THROWN =
            Set.of("IndexOutOfBoundsException", "IllegalArgumentException", "IllegalStateException");
    private static final Set<String> RECURSION = Set.of("MessageReader.readBraces", "MessageReader.readCases",
            "MessageReader.readPieces");
    private static final Set<String> NUMBERS = Set.of("int", "long", "boolean");

    /** A method or constructor: how it stands there, and which ones it calls. */
    private record Method(String name, MethodTree tree, Set<String> calls) {
        boolean isConstructor() {
            return tree.getReturnType() == null;
        }
    }

    private static final Map<String, Method> METHODS = new LinkedHashMap<>();
    private static final List<ClassTree> CLASSES = new ArrayList<>();
    private static final Set<String> OWN = new HashSet<>();

    public static void main(String[] args) throws Exception {
        signs(Files.readString(CODE));
        JavaCompiler compiler = ToolProvider.getSystemJavaCompiler();
        Due.same("there is a compiler", "true", "" + (compiler != null));
        if (compiler != null) {
            read(compiler);
            face();
            calls();
        }
        Due.end();
    }

    private static void holds(String rule, Object where, boolean isKept) {
        Due.same("rule " + rule + ", " + where, "kept", isKept ? "kept" : "broken");
    }

    /** Rules 3 and 4: texts hold signs from 1 to 127. */
    private static void signs(String code) {
        for (int i = 0; i < code.length(); i++) {
            char sign = code.charAt(i);
            if (sign != '\n' && (sign < 32 || sign > 126)) {
                holds("4", "sign " + i + ": " + (int) sign, false);
            }
        }
    }

    private static void read(JavaCompiler compiler) throws Exception {
        StandardJavaFileManager files = compiler.getStandardFileManager(null, null, null);
        JavacTask task = (JavacTask) compiler.getTask(null, files, null, List.of("-proc:none"), null,
                files.getJavaFileObjects(CODE));
        CompilationUnitTree unit = task.parse().iterator().next();
        task.analyze();
        new Names().scan(unit, null);
        new Rules(unit, Trees.instance(task)).scan(unit, null);
    }

    /** Rules 1, 2 and 11: what the classes are, and how much stands in them. */
    private static void face() {
        holds("11", "classes: " + CLASSES.size(), CLASSES.size() <= 12);
        Set<String> open = new TreeSet<>();
        for (Method method : METHODS.values()) {
            if (method.tree.getModifiers().getFlags().contains(Modifier.PUBLIC)) {
                open.add(method.tree.getName().toString());
            }
        }
        for (Method method : METHODS.values()) {
            Set<Modifier> flags = method.tree.getModifiers().getFlags();
            String name = method.tree.getName().toString();
            boolean isFace = flags.contains(Modifier.PUBLIC);
            holds("1", method.name, isFace || method.isConstructor() || !open.contains(name));
            holds("1", method.name, isFace || !method.name.startsWith("LetterTables.") || flags.contains(Modifier.PRIVATE));
            holds("1", method.name, !isFace || method.name.startsWith("LetterTables."));
            // The document itself gives plural its eight.
            holds("11", method.name, method.tree.getParameters().size() <= (name.equals("plural") ? 8 : 7));
        }
    }

    /** Rules 8 and 11: who calls whom. */
    private static void calls() {
        int deepest = 0;
        for (Method method : METHODS.values()) {
            boolean isRound = reach(method.calls).contains(method.name);
            Due.same("rule 8, " + method.name + " is recursive", "" + RECURSION.contains(method.name), "" + isRound);
            deepest = Math.max(deepest, depth(method.name, new HashSet<>()));
        }
        holds("11", "calls " + deepest + " deep", deepest <= 8);
        Method guard = METHODS.get("MessageReader.readBraces");
        holds("8", "a guard on the depth", guard != null && guard.tree.toString().contains("depth >= CHOICES")
                && guard.tree.toString().contains("depth + 1"));
    }

    private static Set<String> reach(Set<String> from) {
        Set<String> all = new HashSet<>(from);
        List<String> open = new ArrayList<>(from);
        while (!open.isEmpty()) {
            Method next = METHODS.get(open.remove(open.size() - 1));
            for (String call : next == null ? Set.<String>of() : next.calls) {
                if (all.add(call)) {
                    open.add(call);
                }
            }
        }
        return all;
    }

    /** How many methods stand open at once from this one on, each of the recursive ones once. */
    private static int depth(String name, Set<String> open) {
        Method method = METHODS.get(name);
        if (method == null || !open.add(name)) {
            return 0;
        }
        int most = 0;
        for (String call : method.calls) {
            most = Math.max(most, depth(call, open));
        }
        open.remove(name);
        return most + 1;
    }

    /** The names of all classes, ahead of the rules that ask for them. */
    private static final class Names extends TreePathScanner<Void, Void> {
        @Override
        public Void visitClass(ClassTree tree, Void none) {
            CLASSES.add(tree);
            OWN.add(tree.getSimpleName().toString());
            return super.visitClass(tree, none);
        }
    }

    private static final class Rules extends TreePathScanner<Void, Void> {
        private final CompilationUnitTree unit;
        private final Trees trees;
        private final LineMap lines;
        private Method open;

        Rules(CompilationUnitTree unit, Trees trees) {
            this.unit = unit;
            this.trees = trees;
            this.lines = unit.getLineMap();
        }

        private Element element() {
            return trees.getElement(getCurrentPath());
        }

        private long line(Tree tree) {
            return lines.getLineNumber(trees.getSourcePositions().getStartPosition(unit, tree));
        }

        private long lastLine(Tree tree) {
            return lines.getLineNumber(trees.getSourcePositions().getEndPosition(unit, tree));
        }

        private void broken(String rule, Tree tree) {
            holds(rule, "line " + line(tree) + ": " + tree, false);
        }

        private void asked(String rule, Tree tree, boolean isKept) {
            holds(rule, "line " + line(tree) + ": " + tree.toString().strip(), isKept);
        }

        private Tree parent() {
            return getCurrentPath().getParentPath().getLeaf();
        }

        // ---- rules 1, 2, 5 and 11: classes, methods and fields

        @Override
        public Void visitClass(ClassTree tree, Void none) {
            Set<Modifier> flags = tree.getModifiers().getFlags();
            boolean isFace = parent().getKind() == Tree.Kind.COMPILATION_UNIT;
            String name = tree.getSimpleName().toString();
            holds("1", "class " + name, flags.contains(Modifier.FINAL) && tree.getExtendsClause() == null
                    && tree.getKind() == Tree.Kind.CLASS && name.equals("LetterTables") == isFace);
            holds("1", "class " + name, isFace ? flags.contains(Modifier.PUBLIC)
                    : flags.contains(Modifier.PRIVATE) && flags.contains(Modifier.STATIC));
            holds("2", "class " + name, open == null && !name.isEmpty());
            int fields = 0;
            for (Tree member : tree.getMembers()) {
                boolean isField = member instanceof VariableTree;
                fields += isField && !isStatic((VariableTree) member) ? 1 : 0;
                holds("5", "no block in " + name, !(member instanceof BlockTree));
            }
            holds("11", "class " + name + " has " + fields + " fields", fields <= 20);
            return super.visitClass(tree, none);
        }

        private static boolean isStatic(VariableTree tree) {
            return tree.getModifiers().getFlags().contains(Modifier.STATIC);
        }

        @Override
        public Void visitMethod(MethodTree tree, Void none) {
            ExecutableElement method = (ExecutableElement) element();
            if (trees.getSourcePositions().getEndPosition(unit, tree) < 0) {
                return null; // a constructor that the compiler adds
            }
            open = new Method(nameOf(method), tree, new HashSet<>());
            // Calls are told apart by their names here; and so no private method bears the name of a public one.
            holds("1", open.name + " stands once", METHODS.put(open.name, open) == null);
            holds("11", open.name + " is short", lastLine(tree) - line(tree) < 60);
            holds("6", open.name, !open.isConstructor() || !tree.toString().contains("throw "));
            Void answer = super.visitMethod(tree, none);
            open = null;
            return answer;
        }

        private static String nameOf(ExecutableElement method) {
            String name = method.getKind() == ElementKind.CONSTRUCTOR ? "new" : method.getSimpleName().toString();
            return method.getEnclosingElement().getSimpleName() + "." + name;
        }

        @Override
        public Void visitVariable(VariableTree tree, Void none) {
            asked("3", tree, isKnown(tree.getType()));
            if (element().getKind() == ElementKind.FIELD) {
                boolean isConstant = ((VariableElement) element()).getConstantValue() != null;
                asked("5", tree, !isStatic(tree) || isConstant && element().getModifiers().contains(Modifier.FINAL));
                boolean isPublic = element().getModifiers().contains(Modifier.PUBLIC);
                asked("1", tree, isPublic ? isConstant : element().getModifiers().contains(Modifier.PRIVATE));
            }
            return super.visitVariable(tree, none);
        }

        /** int, long, boolean, the class's own classes, and rows of int or of these. */
        private static boolean isKnown(Tree type) {
            if (type instanceof ArrayTypeTree) {
                Tree inner = ((ArrayTypeTree) type).getType();
                return inner.toString().equals("int") || OWN.contains(inner.toString());
            }
            return NUMBERS.contains(type.toString()) || OWN.contains(type.toString());
        }

        @Override
        public Void visitImport(ImportTree tree, Void none) {
            broken("4", tree);
            return null;
        }

        @Override
        public Void visitPackage(PackageTree tree, Void none) {
            broken("1", tree);
            return null;
        }

        // ---- rules 2 and 6: what does not stand there at all

        @Override
        public Void visitLambdaExpression(LambdaExpressionTree tree, Void none) {
            broken("2", tree);
            return null;
        }

        @Override
        public Void visitMemberReference(MemberReferenceTree tree, Void none) {
            broken("2", tree);
            return null;
        }

        @Override
        public Void visitTry(TryTree tree, Void none) {
            broken("6", tree);
            return null;
        }

        @Override
        public Void visitCatch(CatchTree tree, Void none) {
            broken("6", tree);
            return null;
        }

        @Override
        public Void visitSynchronized(SynchronizedTree tree, Void none) {
            broken("6", tree);
            return null;
        }

        @Override
        public Void visitAssert(AssertTree tree, Void none) {
            broken("6", tree);
            return null;
        }

        @Override
        public Void visitInstanceOf(InstanceOfTree tree, Void none) {
            broken("6", tree);
            return null;
        }

        @Override
        public Void visitTypeCast(TypeCastTree tree, Void none) {
            asked("6", tree, tree.getType() instanceof PrimitiveTypeTree);
            return super.visitTypeCast(tree, none);
        }

        @Override
        public Void visitThrow(ThrowTree tree, Void none) {
            boolean isWritten = tree.getExpression() instanceof NewClassTree made
                    && THROWN.contains(made.getIdentifier().toString()) && made.getArguments().size() == 1
                    && made.getArguments().get(0).getKind() == Tree.Kind.STRING_LITERAL;
            asked("6", tree, isWritten && open != null && open.name.startsWith("LetterTables."));
            return super.visitThrow(tree, none);
        }

        // ---- rules 3, 4 and 10: texts, the library

        @Override
        public Void visitLiteral(LiteralTree tree, Void none) {
            boolean isText = tree.getKind() == Tree.Kind.STRING_LITERAL;
            Tree thrown = getCurrentPath().getParentPath().getParentPath().getLeaf();
            asked("10", tree, !isText || thrown instanceof ThrowTree);
            holds("3", "line " + line(tree), tree.getKind() != Tree.Kind.DOUBLE_LITERAL
                    && tree.getKind() != Tree.Kind.FLOAT_LITERAL);
            return null;
        }

        @Override
        public Void visitMethodInvocation(MethodInvocationTree tree, Void none) {
            ExecutableElement called = (ExecutableElement) element();
            String owner = ((TypeElement) called.getEnclosingElement()).getQualifiedName().toString();
            boolean isSuper = called.getKind() == ElementKind.CONSTRUCTOR; // that the compiler adds
            holds("4", "line " + line(tree) + ": " + called, isSuper || owner.split("\\.")[0].equals("LetterTables"));
            if (open != null && !isSuper) {
                open.calls.add(nameOf(called));
                // Rule 12: nothing that another class could override; all classes are final here.
                boolean isSteady = !open.isConstructor() || called.getModifiers().contains(Modifier.STATIC);
                holds("12", "line " + line(tree) + ": " + tree, isSteady);
                nulls(tree, called);
            }
            return super.visitMethodInvocation(tree, none);
        }

        // ---- rule 7: what is looked at first

        /** What a method answers that may be null is held against null, or answered in its turn. */
        private void nulls(MethodInvocationTree tree, ExecutableElement called) {
            MethodTree method = trees.getTree(called);
            if (method == null || !method.toString().contains("null")) {
                return;
            }
            if (!NUMBERS.contains(method.getReturnType().toString()) && isAnsweringNull(method)) {
                boolean isAsked = parent() instanceof VariableTree told
                        && open.tree.toString().contains(told.getName() + " == null");
                asked("7", tree, isAsked);
            }
        }

        private static boolean isAnsweringNull(MethodTree method) {
            String text = method.toString();
            return text.contains("return null") || text.contains("? null :");
        }

        @Override
        public Void visitArrayAccess(ArrayAccessTree tree, Void none) {
            String row = tree.getExpression().toString();
            String index = tree.getIndex().toString();
            String text = open == null ? "" : open.tree.toString();
            boolean isBelow = text.contains(index + " < " + row + ".length") || text.contains(index + " >= " + row + ".length");
            boolean isAbove = text.contains(index + " < 0") || text.contains(index + " >= 0")
                    || text.contains("int " + index + " = 0;");
            asked("7", tree, isBelow && isAbove);
            return super.visitArrayAccess(tree, none);
        }

        @Override
        public Void visitBinary(BinaryTree tree, Void none) {
            boolean isDivision = tree.getKind() == Tree.Kind.DIVIDE || tree.getKind() == Tree.Kind.REMAINDER;
            asked("7", tree, !isDivision || isDivisor(tree.getRightOperand()));
            return super.visitBinary(tree, none);
        }

        @Override
        public Void visitCompoundAssignment(CompoundAssignmentTree tree, Void none) {
            boolean isDivision = tree.getKind() == Tree.Kind.DIVIDE_ASSIGNMENT
                    || tree.getKind() == Tree.Kind.REMAINDER_ASSIGNMENT;
            asked("7", tree, !isDivision || isDivisor(tree.getExpression()));
            return super.visitCompoundAssignment(tree, none);
        }

        private boolean isDivisor(ExpressionTree divisor) {
            if (divisor instanceof LiteralTree number) {
                return number.getValue() instanceof Integer value && value > 0;
            }
            String text = open == null ? "" : open.tree.toString();
            return text.contains(divisor + " < 1 ?") || text.contains(divisor + " >= 1");
        }

        @Override
        public Void visitNewArray(NewArrayTree tree, Void none) {
            boolean isKept = tree.getInitializers() == null && tree.getDimensions().size() == 1;
            String length = isKept ? tree.getDimensions().get(0).toString() : "";
            asked("7", tree, length.matches("[A-Z_]+") || length.equals("room < 0 ? 0 : room"));
            asked("12", tree, open != null && open.isConstructor());
            return super.visitNewArray(tree, none);
        }

        @Override
        public Void visitNewClass(NewClassTree tree, Void none) {
            boolean isThrown = parent() instanceof ThrowTree;
            boolean isOwn = OWN.contains(tree.getIdentifier().toString());
            asked("12", tree, isThrown || isOwn && open != null && open.isConstructor());
            asked("2", tree, tree.getClassBody() == null);
            if (!isThrown && open != null) {
                open.calls.add(tree.getIdentifier() + ".new");
            }
            return super.visitNewClass(tree, none);
        }

        // ---- rule 9: each loop has an end that can be seen

        @Override
        public Void visitForLoop(ForLoopTree tree, Void none) {
            String condition = tree.getCondition() == null ? "" : tree.getCondition().toString();
            boolean isBound = condition.contains("<") || condition.contains(">");
            asked("9", tree, isBound && isCounted(tree, condition));
            return super.visitForLoop(tree, none);
        }

        /** What is counted stands in the condition. */
        private static boolean isCounted(ForLoopTree tree, String condition) {
            boolean isCounted = !tree.getUpdate().isEmpty();
            for (Tree update : tree.getUpdate()) {
                String text = update.toString().replaceAll(";$", "");
                isCounted &= text.matches("\\w+(\\+\\+|--| [+/]= \\w+)") && condition.contains(text.replaceAll("\\W.*", ""));
            }
            return isCounted;
        }

        @Override
        public Void visitWhileLoop(WhileLoopTree tree, Void none) {
            broken("9", tree);
            return null;
        }

        @Override
        public Void visitDoWhileLoop(DoWhileLoopTree tree, Void none) {
            broken("9", tree);
            return null;
        }

        @Override
        public Void visitEnhancedForLoop(EnhancedForLoopTree tree, Void none) {
            broken("9", tree);
            return null;
        }
    }
}
