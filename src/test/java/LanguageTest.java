import com.sun.source.tree.AssertTree;
import com.sun.source.tree.AssignmentTree;
import com.sun.source.tree.BinaryTree;
import com.sun.source.tree.BlockTree;
import com.sun.source.tree.ClassTree;
import com.sun.source.tree.CompilationUnitTree;
import com.sun.source.tree.CompoundAssignmentTree;
import com.sun.source.tree.DoWhileLoopTree;
import com.sun.source.tree.ExpressionTree;
import com.sun.source.tree.ForLoopTree;
import com.sun.source.tree.IdentifierTree;
import com.sun.source.tree.ImportTree;
import com.sun.source.tree.InstanceOfTree;
import com.sun.source.tree.LambdaExpressionTree;
import com.sun.source.tree.LineMap;
import com.sun.source.tree.LiteralTree;
import com.sun.source.tree.MemberReferenceTree;
import com.sun.source.tree.MemberSelectTree;
import com.sun.source.tree.MethodInvocationTree;
import com.sun.source.tree.MethodTree;
import com.sun.source.tree.NewArrayTree;
import com.sun.source.tree.NewClassTree;
import com.sun.source.tree.SwitchTree;
import com.sun.source.tree.SynchronizedTree;
import com.sun.source.tree.ThrowTree;
import com.sun.source.tree.Tree;
import com.sun.source.tree.TryTree;
import com.sun.source.tree.TypeCastTree;
import com.sun.source.tree.UnaryTree;
import com.sun.source.tree.VariableTree;
import com.sun.source.tree.WhileLoopTree;
import com.sun.source.util.JavacTask;
import com.sun.source.util.SourcePositions;
import com.sun.source.util.TreeScanner;
import com.sun.source.util.Trees;
import java.nio.file.Path;
import java.util.Map;
import java.util.Set;
import java.util.TreeMap;
import java.util.TreeSet;
import javax.lang.model.element.Modifier;
import javax.tools.JavaCompiler;
import javax.tools.StandardJavaFileManager;
import javax.tools.ToolProvider;

/** The rules of LANGUAGE.md, as far as the tree of the class's one file shows them; each message bears the rule's number. */
final class LanguageTest extends TreeScanner<Void, Void> {
    private static final Due due = new Due();
    private static final Set<String> LIBRARY = Set.of("Math.min", "Math.max", "System.arraycopy", "Arrays.fill", "word.length", "word.charAt");
    private static final Set<String> PLAIN = Set.of("int", "long", "byte", "boolean", "String");
    private static final Set<String> CAST_TO = Set.of("int", "byte", "short");
    private static final Set<Tree.Kind> CHANGES = Set.of(Tree.Kind.POSTFIX_INCREMENT, Tree.Kind.POSTFIX_DECREMENT,
        Tree.Kind.PREFIX_INCREMENT, Tree.Kind.PREFIX_DECREMENT);
    private static final int MOST_PARAMETERS = 7;
    private static final int MOST_LINES = 60;
    private static final int MOST_DEEP = 8;
    private static final int MOST_CLASSES = 12;
    private static final int MOST_FIELDS = 20;

    private final SourcePositions positions;
    private final LineMap lines;
    private final CompilationUnitTree unit;
    private final Set<String> classes = new TreeSet<>();
    private final Set<String> methods = new TreeSet<>();
    private final Set<String> constantRows = new TreeSet<>();
    /** Which methods each method calls. */
    private final Map<String, Set<String>> calls = new TreeMap<>();
    private final Set<String> faceNames = new TreeSet<>();
    private final Set<String> otherNames = new TreeSet<>();
    private MethodTree method;
    private int loops;

    private LanguageTest(CompilationUnitTree unit, SourcePositions positions) {
        this.unit = unit;
        this.positions = positions;
        this.lines = unit.getLineMap();
    }

    public static void main(String[] args) throws Exception {
        JavaCompiler compiler = ToolProvider.getSystemJavaCompiler();
        try (StandardJavaFileManager files = compiler.getStandardFileManager(null, null, null)) {
            JavacTask task = (JavacTask) compiler.getTask(null, files, null, null, null,
                files.getJavaFileObjects(Path.of("src/main/java/OwingSwings.java")));
            for (CompilationUnitTree unit : task.parse()) {
                new LanguageTest(unit, Trees.instance(task).getSourcePositions()).look();
            }
        }
        due.end();
    }

    private void look() {
        fine(0, unit, unit.getPackageName() == null, "no package");
        fine(0, unit, unit.getTypeDecls().size() == 1, "one class of the file's own");
        names();
        fine(11, unit, classes.size() <= MOST_CLASSES, "few classes");
        scan(unit, null);
        for (String name : faceNames) {
            fine(1, unit, !otherNames.contains(name), "no other method is named " + name);
        }
        fine(1, unit, faceNames.size() == 36, "36 names in the face");
        for (String name : calls.keySet()) {
            fine(8, unit, !reaches(name, name, new TreeSet<>()), name + " doesn't call itself");
        }
        for (String name : faceNames) {
            int deep = depth(name, 0);
            fine(11, unit, deep <= MOST_DEEP, name + " goes " + deep + " deep");
        }
    }

    /** The names that are declared anywhere in the file, so that what stands before them can be judged, too. */
    private void names() {
        new TreeScanner<Void, Void>() {
            @Override
            public Void visitClass(ClassTree tree, Void none) {
                classes.add(tree.getSimpleName().toString());
                return super.visitClass(tree, none);
            }

            @Override
            public Void visitMethod(MethodTree tree, Void none) {
                methods.add(tree.getName().toString());
                return null;
            }

            @Override
            public Void visitVariable(VariableTree tree, Void none) {
                if (tree.getModifiers().getFlags().contains(Modifier.STATIC) && tree.getType().toString().endsWith("[]")) {
                    constantRows.add(tree.getName().toString());
                }
                return null;
            }
        }.scan(unit, null);
    }

    private void fine(int rule, Tree where, boolean isFine, String what) {
        long line = lines.getLineNumber(Math.max(0, positions.getStartPosition(unit, where)));
        due.same("rule " + rule + ", line " + line + ": " + what, isFine ? 1 : 0, 1);
    }

    // ---- calls

    private boolean reaches(String from, String wanted, Set<String> seen) {
        for (String next : calls.getOrDefault(from, Set.of())) {
            if (next.equals(wanted) || seen.add(next) && reaches(next, wanted, seen)) {
                return true;
            }
        }
        return false;
    }

    private int depth(String name, int above) {
        if (above > 2 * MOST_DEEP) {
            return above;
        }
        int deepest = above + 1;
        for (String next : calls.getOrDefault(name, Set.of())) {
            deepest = Math.max(deepest, depth(next, above + 1));
        }
        return deepest;
    }

    @Override
    public Void visitMethodInvocation(MethodInvocationTree tree, Void none) {
        ExpressionTree called = tree.getMethodSelect();
        String name = called.toString();
        if (name.equals("super")) {
            return super.visitMethodInvocation(tree, none);
        }
        boolean isLibrary = LIBRARY.contains(name);
        if (called instanceof MemberSelectTree) {
            name = isLibrary ? name : ((MemberSelectTree) called).getIdentifier().toString();
        }
        fine(4, tree, isLibrary || methods.contains(name), "the library: " + called);
        if (method != null) {
            calls.computeIfAbsent(method.getName().toString(), n -> new TreeSet<>()).add(name);
            fine(12, tree, !isConstructor(), "a constructor calls nothing");
        }
        return super.visitMethodInvocation(tree, none);
    }

    // ---- what stands in the file

    @Override
    public Void visitImport(ImportTree tree, Void none) {
        fine(4, tree, tree.getQualifiedIdentifier().toString().equals("java.util.Arrays"), "import " + tree.getQualifiedIdentifier());
        return null;
    }

    @Override
    public Void visitClass(ClassTree tree, Void none) {
        Set<Modifier> marks = tree.getModifiers().getFlags();
        boolean isFace = tree.getSimpleName().contentEquals("OwingSwings");
        fine(1, tree, marks.contains(Modifier.FINAL) && (isFace == marks.contains(Modifier.PUBLIC)), "final, and public if it is the face");
        fine(2, tree, method == null && (isFace || marks.contains(Modifier.STATIC)), "static, and inside no method");
        fine(2, tree, tree.getKind() == Tree.Kind.CLASS, "a plain class");
        int fields = 0;
        for (Tree member : tree.getMembers()) {
            if (member instanceof VariableTree) {
                fields += field((VariableTree) member, isFace) ? 1 : 0;
            }
            fine(5, member, !(member instanceof BlockTree), "no initialiser block");
        }
        fine(11, tree, fields <= MOST_FIELDS, fields + " fields");
        return super.visitClass(tree, none);
    }

    /** Whether it is a field of each object. */
    private boolean field(VariableTree tree, boolean isFace) {
        Set<Modifier> marks = tree.getModifiers().getFlags();
        fine(1, tree, !isFace || marks.contains(Modifier.PRIVATE), tree.getName() + " is private");
        if (!marks.contains(Modifier.STATIC)) {
            return true;
        }
        String type = tree.getType().toString();
        fine(5, tree, marks.contains(Modifier.FINAL), tree.getName() + " is final");
        fine(5, tree, tree.getInitializer() != null, tree.getName() + " is written out");
        if (type.endsWith("[]")) {
            fine(5, tree, type.equals("int[]") && tree.getInitializer() instanceof NewArrayTree, "a row of numbers, written out");
        } else {
            fine(5, tree, type.equals("int"), "a constant of int");
        }
        return false;
    }

    @Override
    public Void visitMethod(MethodTree tree, Void none) {
        Set<Modifier> marks = tree.getModifiers().getFlags();
        String name = tree.getName().toString();
        if (!name.equals("<init>")) {
            boolean isNew = marks.contains(Modifier.PUBLIC) ? faceNames.add(name) : otherNames.add(name);
            fine(11, tree, isNew, "one method of a name, so that calls can be followed: " + name);
        }
        fine(1, tree, !marks.contains(Modifier.PROTECTED), "not protected");
        fine(6, tree, !name.equals("equals") && !name.equals("hashCode") && !name.equals("toString"), "no equals, hashCode, toString");
        fine(6, tree, tree.getThrows().isEmpty(), "throws nothing");
        fine(11, tree, tree.getParameters().size() <= MOST_PARAMETERS, "few parameters");
        long first = lines.getLineNumber(positions.getStartPosition(unit, tree));
        long last = lines.getLineNumber(positions.getEndPosition(unit, tree));
        fine(11, tree, last - first < MOST_LINES, name + " has " + (last - first + 1) + " lines");
        if (tree.getReturnType() != null) {
            fine(3, tree, isType(tree.getReturnType().toString()) || tree.getReturnType().toString().equals("void"), "type of " + name);
        }
        method = tree;
        loops = 0;
        super.visitMethod(tree, none);
        method = null;
        return null;
    }

    private boolean isType(String type) {
        String one = type.endsWith("[]") ? type.substring(0, type.length() - 2) : type;
        return PLAIN.contains(one) || classes.contains(one);
    }

    @Override
    public Void visitVariable(VariableTree tree, Void none) {
        fine(3, tree, isType(tree.getType().toString()), "type of " + tree);
        return super.visitVariable(tree, none);
    }

    // ---- what is made

    private boolean isConstructor() {
        return method != null && method.getName().contentEquals("<init>");
    }

    @Override
    public Void visitNewClass(NewClassTree tree, Void none) {
        fine(2, tree, tree.getClassBody() == null, "no anonymous class");
        fine(12, tree, isConstructor(), "made in a constructor: " + tree);
        fine(3, tree, classes.contains(tree.getIdentifier().toString()), "a class of its own");
        return super.visitNewClass(tree, none);
    }

    @Override
    public Void visitNewArray(NewArrayTree tree, Void none) {
        boolean isConstant = method == null && tree.getInitializers() != null;
        fine(12, tree, isConstant || isConstructor(), "made in a constructor: " + tree);
        fine(12, tree, loops == 0, "no row in a loop");
        fine(3, tree, isConstant || tree.getDimensions().size() == 1, "of one dimension");
        return super.visitNewArray(tree, none);
    }

    // ---- what is changed and joined

    private void notConstant(Tree where, ExpressionTree changed) {
        for (String row : constantRows) {
            fine(5, where, !changed.toString().contains(row), row + " is never changed");
        }
    }

    @Override
    public Void visitAssignment(AssignmentTree tree, Void none) {
        notConstant(tree, tree.getVariable());
        return super.visitAssignment(tree, none);
    }

    @Override
    public Void visitCompoundAssignment(CompoundAssignmentTree tree, Void none) {
        notConstant(tree, tree.getVariable());
        return super.visitCompoundAssignment(tree, none);
    }

    @Override
    public Void visitUnary(UnaryTree tree, Void none) {
        if (CHANGES.contains(tree.getKind())) {
            notConstant(tree, tree.getExpression());
        }
        return super.visitUnary(tree, none);
    }

    @Override
    public Void visitBinary(BinaryTree tree, Void none) {
        boolean isText = tree.getLeftOperand().getKind() == Tree.Kind.STRING_LITERAL || tree.getRightOperand().getKind() == Tree.Kind.STRING_LITERAL;
        fine(10, tree, !isText, "no text joined or compared: " + tree);
        boolean isDivision = tree.getKind() == Tree.Kind.DIVIDE || tree.getKind() == Tree.Kind.REMAINDER;
        if (isDivision) {
            String by = tree.getRightOperand().toString();
            fine(7, tree, by.matches("[A-Z_]+|[1-9]\\d*"), "a constant divides: " + tree);
        }
        return super.visitBinary(tree, none);
    }

    @Override
    public Void visitTypeCast(TypeCastTree tree, Void none) {
        fine(6, tree, CAST_TO.contains(tree.getType().toString()), "casts among numbers alone: " + tree);
        return super.visitTypeCast(tree, none);
    }

    @Override
    public Void visitLiteral(LiteralTree tree, Void none) {
        fine(6, tree, tree.getKind() != Tree.Kind.NULL_LITERAL, "nothing is ever null");
        fine(3, tree, tree.getKind() != Tree.Kind.DOUBLE_LITERAL && tree.getKind() != Tree.Kind.FLOAT_LITERAL, "no fractions");
        if (tree.getValue() instanceof String) {
            for (char c : ((String) tree.getValue()).toCharArray()) {
                fine(4, tree, c >= 1 && c <= 127, "signs 1 to 127");
            }
        }
        return null;
    }

    @Override
    public Void visitIdentifier(IdentifierTree tree, Void none) {
        fine(4, tree, !tree.getName().toString().matches("Object|Integer|Long|List|ArrayList|StringBuilder|Thread|Runtime|Random"),
            "not used so far, look at the rules: " + tree);
        return null;
    }

    // ---- loops

    private Void loop(Tree tree, ExpressionTree condition) {
        fine(9, tree, condition != null && !condition.toString().contains("true"), "a loop has an end: " + condition);
        loops++;
        return null;
    }

    @Override
    public Void visitForLoop(ForLoopTree tree, Void none) {
        loop(tree, tree.getCondition());
        super.visitForLoop(tree, none);
        loops--;
        return null;
    }

    @Override
    public Void visitWhileLoop(WhileLoopTree tree, Void none) {
        loop(tree, tree.getCondition());
        super.visitWhileLoop(tree, none);
        loops--;
        return null;
    }

    @Override
    public Void visitDoWhileLoop(DoWhileLoopTree tree, Void none) {
        loop(tree, tree.getCondition());
        super.visitDoWhileLoop(tree, none);
        loops--;
        return null;
    }

    // ---- what may not stand there at all

    private Void banned(int rule, Tree tree) {
        fine(rule, tree, false, "banned: " + tree);
        return null;
    }

    @Override
    public Void visitThrow(ThrowTree tree, Void none) {
        return banned(6, tree);
    }

    @Override
    public Void visitTry(TryTree tree, Void none) {
        return banned(6, tree);
    }

    @Override
    public Void visitSynchronized(SynchronizedTree tree, Void none) {
        return banned(6, tree);
    }

    @Override
    public Void visitAssert(AssertTree tree, Void none) {
        return banned(6, tree);
    }

    @Override
    public Void visitInstanceOf(InstanceOfTree tree, Void none) {
        return banned(6, tree);
    }

    @Override
    public Void visitLambdaExpression(LambdaExpressionTree tree, Void none) {
        return banned(2, tree);
    }

    @Override
    public Void visitMemberReference(MemberReferenceTree tree, Void none) {
        return banned(2, tree);
    }

    @Override
    public Void visitSwitch(SwitchTree tree, Void none) {
        fine(6, tree, tree.getExpression().toString().matches("\\((what|kind|kinds\\[child\\])\\)"), "a switch on numbers: " + tree.getExpression());
        return super.visitSwitch(tree, none);
    }
}
