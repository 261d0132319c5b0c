import com.sun.source.tree.AssertTree;
import com.sun.source.tree.BinaryTree;
import com.sun.source.tree.BlockTree;
import com.sun.source.tree.ClassTree;
import com.sun.source.tree.CompilationUnitTree;
import com.sun.source.tree.CompoundAssignmentTree;
import com.sun.source.tree.DoWhileLoopTree;
import com.sun.source.tree.ExpressionTree;
import com.sun.source.tree.ForLoopTree;
import com.sun.source.tree.ImportTree;
import com.sun.source.tree.InstanceOfTree;
import com.sun.source.tree.LambdaExpressionTree;
import com.sun.source.tree.LiteralTree;
import com.sun.source.tree.MemberReferenceTree;
import com.sun.source.tree.MethodInvocationTree;
import com.sun.source.tree.MethodTree;
import com.sun.source.tree.NewArrayTree;
import com.sun.source.tree.NewClassTree;
import com.sun.source.tree.SynchronizedTree;
import com.sun.source.tree.ThrowTree;
import com.sun.source.tree.Tree;
import com.sun.source.tree.TryTree;
import com.sun.source.tree.TypeCastTree;
import com.sun.source.tree.VariableTree;
import com.sun.source.tree.WhileLoopTree;
import com.sun.source.util.JavacTask;
import com.sun.source.util.TreePath;
import com.sun.source.util.TreePathScanner;
import com.sun.source.util.Trees;
import java.io.IOException;
import java.nio.file.Path;
import java.util.ArrayDeque;
import java.util.Deque;
import java.util.List;
import java.util.Map;
import java.util.Set;
import java.util.TreeMap;
import java.util.TreeSet;
import javax.lang.model.element.Element;
import javax.lang.model.element.Modifier;
import javax.lang.model.type.TypeMirror;
import javax.tools.JavaCompiler;
import javax.tools.StandardJavaFileManager;
import javax.tools.ToolProvider;

/** The rules of LANGUAGE.md, as far as the compiler's own reading of the class can tell; what the class leaves alone
 * altogether (try, while, casts of objects) is refused altogether. FaceTest looks at rule 1, RoomTest at rule 12. */
public final class LanguageTest extends TreePathScanner<Void, Void> {
    private static final Checks CHECK = new Checks("LanguageTest");
    private static final Path SOURCE = Path.of("src", "main", "java", "GearObservatory.java");
    private static final int MOST_CLASSES = 12;
    private static final int MOST_FIELDS = 20;
    private static final int MOST_LINES = 60;
    private static final int MOST_PARAMETERS = 7;
    private static final int MOST_CALLS_DEEP = 8;
    private static final int LAST_SIGN = 127;
    private static final String FIELDS = "the fields";

    private static final Set<String> LIBRARY = Set.of("java.lang.Math.abs", "java.lang.Math.min", "java.lang.Math.max",
            "java.lang.Math.floorMod", "java.lang.Math.floorDiv", "java.lang.System.arraycopy",
            "java.lang.String.length", "java.lang.String.charAt", "java.lang.Object.<init>");
    private static final Set<String> EXCEPTIONS = Set.of("java.lang.IllegalStateException",
            "java.lang.IllegalArgumentException", "java.lang.IndexOutOfBoundsException",
            "java.lang.ArithmeticException", "java.lang.UnsupportedOperationException",
            "java.util.NoSuchElementException");
    private static final Set<String> CONSTANTS = Set.of("int", "long", "boolean", "char", "java.lang.String");

    private final CompilationUnitTree unit;
    private final Trees trees;
    /** What each method calls, by the names of class and method. */
    private final Map<String, Set<String>> calls = new TreeMap<>();
    private final Deque<String> classes = new ArrayDeque<>();
    private String method = FIELDS;
    private boolean inConstructor;
    private int classCount;

    private LanguageTest(CompilationUnitTree unit, Trees trees) {
        this.unit = unit;
        this.trees = trees;
    }

    public static void main(String[] args) throws IOException {
        JavaCompiler compiler = ToolProvider.getSystemJavaCompiler();
        try (StandardJavaFileManager files = compiler.getStandardFileManager(null, null, null)) {
            JavacTask task = (JavacTask) compiler.getTask(null, files, null, List.of("-proc:none"), null,
                    files.getJavaFileObjects(SOURCE));
            int units = 0;
            for (CompilationUnitTree unit : task.parse()) {
                task.analyze();
                new LanguageTest(unit, Trees.instance(task)).readAll();
                units++;
            }
            CHECK.same("files of the class", units, 1);
        }
        CHECK.end();
    }

    private void readAll() {
        CHECK.yes("no package line", unit.getPackageName() == null);
        CHECK.same("classes that stand beside one another", unit.getTypeDecls().size(), 1);
        scan(unit, null);
        CHECK.yes(classCount + " classes", classCount <= MOST_CLASSES);
        for (String name : calls.keySet()) {
            int deep = depthOf(name, 0);
            CHECK.yes("calls from " + name + " go " + deep + " deep (rules 8 and 11)", deep <= MOST_CALLS_DEEP);
        }
    }

    // ---- classes, fields and methods ----

    @Override
    public Void visitImport(ImportTree tree, Void none) {
        String name = tree.getQualifiedIdentifier().toString();
        CHECK.yes("import of " + name + " (rule 4)", name.startsWith("java.util.") && !tree.isStatic());
        return super.visitImport(tree, none);
    }

    @Override
    public Void visitClass(ClassTree tree, Void none) {
        classCount++;
        classes.push(tree.getSimpleName().toString());
        int fields = 0;
        for (Tree member : tree.getMembers()) {
            if (member instanceof BlockTree) {
                refuse(5, "a block of an initialiser", member);
            }
            if (member instanceof VariableTree && !isStatic((VariableTree) member)) {
                fields++;
            }
        }
        CHECK.yes(tree.getSimpleName() + " has " + fields + " fields (rule 11)", fields <= MOST_FIELDS);
        super.visitClass(tree, none);
        classes.pop();
        return null;
    }

    @Override
    public Void visitMethod(MethodTree tree, Void none) {
        String name = tree.getName().toString();
        method = classes.peek() + "." + name;
        inConstructor = tree.getReturnType() == null;
        CHECK.yes(method + " stands once, so that its name tells it", inConstructor || !calls.containsKey(method));
        calls.putIfAbsent(method, new TreeSet<>());
        CHECK.no(method + " (rule 6)", Set.of("equals", "hashCode", "toString").contains(name));
        CHECK.yes(method + " takes few parameters (rule 11)", tree.getParameters().size() <= MOST_PARAMETERS);
        long lines = lineOf(endOf(tree)) - lineOf(startOf(tree)) + 1;
        CHECK.yes(method + " has " + lines + " lines (rule 11)", lines <= MOST_LINES);
        super.visitMethod(tree, none);
        if (calls.get(method).contains(method)) {
            recursive(tree);
        }
        method = FIELDS;
        inConstructor = false;
        return null;
    }

    /** A method that calls itself carries its depth, and looks at it first. */
    private void recursive(MethodTree tree) {
        Set<Modifier> modifiers = tree.getModifiers().getFlags();
        CHECK.yes(method + " is private and static (rule 8)",
                modifiers.contains(Modifier.PRIVATE) && modifiers.contains(Modifier.STATIC));
        VariableTree last = tree.getParameters().get(tree.getParameters().size() - 1);
        CHECK.yes(method + " carries its depth (rule 8)", last.getName().contentEquals("depth"));
        String first = tree.getBody().getStatements().get(0).toString();
        CHECK.yes(method + " looks at its depth first (rule 8)", first.startsWith("if (depth >= "));
    }

    @Override
    public Void visitVariable(VariableTree tree, Void none) {
        TypeMirror type = trees.getTypeMirror(getCurrentPath());
        CHECK.yes(tree.getName() + " is of an allowed type (rule 3): " + type, isAllowed(type.toString()));
        if (isStatic(tree)) {
            CHECK.yes(tree.getName() + " is a constant (rule 5)",
                    tree.getModifiers().getFlags().contains(Modifier.FINAL) && CONSTANTS.contains(type.toString()));
        }
        return super.visitVariable(tree, none);
    }

    private static boolean isStatic(VariableTree tree) {
        return tree.getModifiers().getFlags().contains(Modifier.STATIC);
    }

    private static boolean isAllowed(String type) {
        String element = type.endsWith("[]") ? type.substring(0, type.length() - 2) : type;
        return Set.of("int", "char", "boolean", "double", "float").contains(element)
                || element.startsWith("GearObservatory.") && !element.endsWith("[]")
                || type.equals("java.lang.String");
    }

    // ---- calls, new objects and exceptions ----

    @Override
    public Void visitMethodInvocation(MethodInvocationTree tree, Void none) {
        Element called = trees.getElement(getCurrentPath());
        Element owner = called.getEnclosingElement();
        String name = owner + "." + called.getSimpleName();
        if (name.startsWith("GearObservatory")) {
            String own = owner.getSimpleName() + "." + called.getSimpleName();
            calls.computeIfAbsent(method, caller -> new TreeSet<>()).add(own);
        } else {
            CHECK.yes(name + " in " + method + " (rule 4)", LIBRARY.contains(name));
        }
        return super.visitMethodInvocation(tree, none);
    }

    @Override
    public Void visitNewClass(NewClassTree tree, Void none) {
        String type = String.valueOf(trees.getTypeMirror(getCurrentPath()));
        boolean own = type.startsWith("GearObservatory.");
        boolean thrown = getCurrentPath().getParentPath().getLeaf() instanceof ThrowTree;
        CHECK.yes("new " + type + " in " + method + " (rules 4 and 6)", own || thrown && EXCEPTIONS.contains(type));
        CHECK.yes("only constructors make a " + type + ", but so does " + method, thrown || isMaking());
        for (ExpressionTree argument : thrown ? tree.getArguments() : List.<ExpressionTree>of()) {
            CHECK.yes("a written text in " + tree + " (rule 6)", argument.getKind() == Tree.Kind.STRING_LITERAL);
        }
        return super.visitNewClass(tree, none);
    }

    @Override
    public Void visitNewArray(NewArrayTree tree, Void none) {
        CHECK.yes("only constructors make rows, but so does " + method, isMaking());
        return super.visitNewArray(tree, none);
    }

    private boolean isMaking() {
        return inConstructor || method.equals(FIELDS);
    }

    @Override
    public Void visitThrow(ThrowTree tree, Void none) {
        CHECK.no(tree + " in a constructor (rule 6)", inConstructor);
        CHECK.yes(tree + " throws a new exception (rule 6)", tree.getExpression() instanceof NewClassTree);
        return super.visitThrow(tree, none);
    }

    // ---- what is left alone ----

    @Override
    public Void visitLambdaExpression(LambdaExpressionTree tree, Void none) {
        return refuse(2, "a lambda", tree);
    }

    @Override
    public Void visitMemberReference(MemberReferenceTree tree, Void none) {
        return refuse(2, "a method reference", tree);
    }

    @Override
    public Void visitTry(TryTree tree, Void none) {
        return refuse(6, "a try", tree);
    }

    @Override
    public Void visitSynchronized(SynchronizedTree tree, Void none) {
        return refuse(6, "a synchronized", tree);
    }

    @Override
    public Void visitAssert(AssertTree tree, Void none) {
        return refuse(6, "an assert", tree);
    }

    @Override
    public Void visitInstanceOf(InstanceOfTree tree, Void none) {
        return refuse(6, "an instanceof", tree);
    }

    @Override
    public Void visitWhileLoop(WhileLoopTree tree, Void none) {
        return refuse(9, "a while", tree);
    }

    @Override
    public Void visitDoWhileLoop(DoWhileLoopTree tree, Void none) {
        return refuse(9, "a do", tree);
    }

    @Override
    public Void visitForLoop(ForLoopTree tree, Void none) {
        CHECK.yes("a loop with an end in " + method + " (rule 9)", tree.getCondition() != null);
        return super.visitForLoop(tree, none);
    }

    @Override
    public Void visitTypeCast(TypeCastTree tree, Void none) {
        TypeMirror type = trees.getTypeMirror(getCurrentPath());
        CHECK.yes("a cast to " + type + " in " + method + " (rule 6)", type.getKind().isPrimitive());
        return super.visitTypeCast(tree, none);
    }

    @Override
    public Void visitBinary(BinaryTree tree, Void none) {
        CHECK.no("texts joined by + in " + method + " (rule 10)", isText(getCurrentPath()));
        boolean compared = tree.getKind() == Tree.Kind.EQUAL_TO || tree.getKind() == Tree.Kind.NOT_EQUAL_TO;
        CHECK.no("== between texts in " + method + " (rule 6)",
                compared && isText(new TreePath(getCurrentPath(), tree.getLeftOperand())));
        CHECK.no("% of doubles in " + method + " (rule 3)", tree.getKind() == Tree.Kind.REMAINDER
                && Set.of("double", "float").contains(trees.getTypeMirror(getCurrentPath()).toString()));
        return super.visitBinary(tree, none);
    }

    @Override
    public Void visitCompoundAssignment(CompoundAssignmentTree tree, Void none) {
        CHECK.no("texts joined by += in " + method + " (rule 10)", isText(getCurrentPath()));
        return super.visitCompoundAssignment(tree, none);
    }

    @Override
    public Void visitLiteral(LiteralTree tree, Void none) {
        String signs = tree.getValue() instanceof String || tree.getValue() instanceof Character
                ? tree.getValue().toString() : "";
        for (int i = 0; i < signs.length(); i++) {
            CHECK.yes(tree + " (rule 4)", signs.charAt(i) >= 1 && signs.charAt(i) <= LAST_SIGN);
        }
        return super.visitLiteral(tree, none);
    }

    private boolean isText(TreePath path) {
        return "java.lang.String".equals(String.valueOf(trees.getTypeMirror(path)));
    }

    private Void refuse(int rule, String what, Tree tree) {
        CHECK.say(what + " in line " + lineOf(startOf(tree)) + " (rule " + rule + ")");
        return null;
    }

    private long startOf(Tree tree) {
        return trees.getSourcePositions().getStartPosition(unit, tree);
    }

    private long endOf(Tree tree) {
        return trees.getSourcePositions().getEndPosition(unit, tree);
    }

    private long lineOf(long place) {
        return unit.getLineMap().getLineNumber(place);
    }

    /** A method that calls itself counts once; what calls itself through others goes too deep. */
    private int depthOf(String name, int above) {
        int deepest = above + 1;
        if (deepest > MOST_CALLS_DEEP) {
            return deepest;
        }
        for (String called : calls.getOrDefault(name, Set.of())) {
            if (!called.equals(name)) {
                deepest = Math.max(deepest, depthOf(called, above + 1));
            }
        }
        return deepest;
    }
}
