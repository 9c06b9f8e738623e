import com.sun.source.tree.BinaryTree;
import com.sun.source.tree.ClassTree;
import com.sun.source.tree.CompilationUnitTree;
import com.sun.source.tree.CompoundAssignmentTree;
import com.sun.source.tree.ExpressionTree;
import com.sun.source.tree.ForLoopTree;
import com.sun.source.tree.ImportTree;
import com.sun.source.tree.LiteralTree;
import com.sun.source.tree.MethodInvocationTree;
import com.sun.source.tree.MethodTree;
import com.sun.source.tree.NewArrayTree;
import com.sun.source.tree.NewClassTree;
import com.sun.source.tree.Tree;
import com.sun.source.tree.VariableTree;
import com.sun.source.tree.WhileLoopTree;
import com.sun.source.util.JavacTask;
import com.sun.source.util.TreePathScanner;
import com.sun.source.util.Trees;
import java.nio.file.Files;
import java.nio.file.Path;
import java.util.ArrayDeque;
import java.util.Deque;
import java.util.EnumSet;
import java.util.List;
import java.util.Map;
import java.util.Set;
import java.util.TreeMap;
import java.util.TreeSet;
import javax.lang.model.element.Element;
import javax.lang.model.element.ElementKind;
import javax.lang.model.element.ExecutableElement;
import javax.lang.model.element.Modifier;
import javax.lang.model.type.TypeMirror;
import javax.tools.JavaCompiler;
import javax.tools.StandardJavaFileManager;
import javax.tools.ToolProvider;

/**
 * The rules of ../shared/LANGUAGE.md, as far as they can be seen in the program's syntax tree. Where a
 * rule leaves more than the program uses, the program is held to what it uses: who needs more reads the
 * rule and adds it here.
 */
public final class LanguageTest extends TreePathScanner<Void, Void> {
    private static final Path PROGRAM = Path.of("src/main/java/WeightedWords.java");

    /** By rule 6, or 2, 3, 9; some only as the program does without them. */
    private static final Set<Tree.Kind> RULED_OUT = EnumSet.of(Tree.Kind.LAMBDA_EXPRESSION,
            Tree.Kind.MEMBER_REFERENCE, Tree.Kind.THROW, Tree.Kind.TRY, Tree.Kind.CATCH, Tree.Kind.SYNCHRONIZED,
            Tree.Kind.ASSERT, Tree.Kind.INSTANCE_OF, Tree.Kind.DO_WHILE_LOOP, Tree.Kind.ANNOTATION,
            Tree.Kind.PARAMETERIZED_TYPE, Tree.Kind.PACKAGE);
    private static final Set<String> LIBRARY = Set.of("java.lang.System.arraycopy", "java.util.Arrays.fill",
            "java.lang.Math.max", "java.lang.String.length", "java.lang.String.charAt", "java.lang.Object.<init>");
    private static final String TYPES = "(int|long|byte|boolean|float|double)(\\[\\]){0,2}|java.lang.String"
            + "|WeightedWords\\.\\w+(\\[\\])?";
    private static final String CONSTANTS = "int|long|boolean|char|java.lang.String";
    /** None is ever 0: Realm lets in no other P and L, and the others are looked at where they stand. */
    private static final Set<String> DIVISORS = Set.of("2", "2.0", "10", "128", "d", "p", "prime", "letters",
            "realm.prime", "realm.letters", "(float)words", "(double)words");
    private static final Set<String> MAKERS = Set.of("<init>", "draw", "put");
    private static final int MOST_PARAMETERS = 7, MOST_LINES = 60, DEEPEST = 8, MOST_CLASSES = 12, MOST_FIELDS = 20;

    private final CompilationUnitTree unit;
    private final Trees trees;
    private final Map<String, Set<String>> calls = new TreeMap<>();
    private int classes;
    private int wrong;

    private LanguageTest(CompilationUnitTree unit, Trees trees) {
        this.unit = unit;
        this.trees = trees;
    }

    private void due(int rule, boolean kept, Object what) {
        if (!kept) {
            wrong++;
            System.out.println("rule " + rule + ": " + what);
        }
    }

    private long lineOf(long place) {
        return unit.getLineMap().getLineNumber(place);
    }

    private String at(Tree tree) {
        long line = lineOf(trees.getSourcePositions().getStartPosition(unit, tree));
        return "line " + line + ": " + tree.toString().lines().findFirst().orElse("");
    }

    private static String nameOf(Element element) {
        return element.getEnclosingElement() + "." + element.getSimpleName();
    }

    private String methodAround() {
        for (var path = getCurrentPath(); path != null; path = path.getParentPath()) {
            if (path.getLeaf() instanceof MethodTree method) {
                return nameOf(trees.getElement(trees.getPath(unit, method)));
            }
        }
        return "";
    }

    @Override
    public Void scan(Tree tree, Void none) {
        if (tree != null) {
            due(6, !RULED_OUT.contains(tree.getKind()), "no " + tree.getKind() + " in it: " + at(tree));
        }
        return super.scan(tree, none);
    }

    @Override
    public Void visitImport(ImportTree tree, Void none) {
        due(4, tree.getQualifiedIdentifier().toString().equals("java.util.Arrays"), at(tree));
        return super.visitImport(tree, none);
    }

    @Override
    public Void visitClass(ClassTree tree, Void none) {
        classes++;
        boolean outer = getCurrentPath().getParentPath().getLeaf() == unit;
        Set<Modifier> flags = tree.getModifiers().getFlags();
        due(2, outer || flags.contains(Modifier.STATIC) && flags.contains(Modifier.PRIVATE), at(tree));
        due(2, flags.contains(Modifier.FINAL) && tree.getExtendsClause() == null, at(tree));
        int fields = 0;
        for (Tree member : tree.getMembers()) {
            due(5, member.getKind() != Tree.Kind.BLOCK, "no initialiser block: " + at(member));
            if (member instanceof VariableTree field && !field.getModifiers().getFlags().contains(Modifier.STATIC)) {
                fields++;
            }
        }
        due(11, fields <= MOST_FIELDS, tree.getSimpleName() + " has " + fields + " fields");
        return super.visitClass(tree, none);
    }

    @Override
    public Void visitVariable(VariableTree tree, Void none) {
        Element variable = trees.getElement(getCurrentPath());
        String type = variable.asType().toString();
        due(3, type.matches(TYPES), at(tree));
        if (variable.getModifiers().contains(Modifier.STATIC)) {
            due(5, variable.getModifiers().contains(Modifier.FINAL) && type.matches(CONSTANTS), at(tree));
        }
        return super.visitVariable(tree, none);
    }

    @Override
    public Void visitMethod(MethodTree tree, Void none) {
        long first = lineOf(trees.getSourcePositions().getStartPosition(unit, tree));
        long last = lineOf(trees.getSourcePositions().getEndPosition(unit, tree));
        due(11, last - first < MOST_LINES, tree.getName() + " has " + (last - first + 1) + " lines");
        due(11, tree.getParameters().size() <= MOST_PARAMETERS, at(tree));
        calls.computeIfAbsent(nameOf(trees.getElement(getCurrentPath())), name -> new TreeSet<>());
        return super.visitMethod(tree, none);
    }

    private void look(Element called, Tree tree) {
        String name = nameOf(called);
        if (called.getEnclosingElement().toString().startsWith("WeightedWords")) {
            calls.computeIfAbsent(methodAround(), caller -> new TreeSet<>()).add(name);
        } else {
            due(4, LIBRARY.contains(name), "no " + name + " in the library that is left: " + at(tree));
        }
    }

    @Override
    public Void visitMethodInvocation(MethodInvocationTree tree, Void none) {
        look(trees.getElement(getCurrentPath()), tree);
        return super.visitMethodInvocation(tree, none);
    }

    @Override
    public Void visitNewClass(NewClassTree tree, Void none) {
        ExecutableElement made = (ExecutableElement) trees.getElement(getCurrentPath());
        due(2, made.getKind() == ElementKind.CONSTRUCTOR && tree.getClassBody() == null, at(tree));
        look(made, tree);
        lookAtMaker(tree);
        return super.visitNewClass(tree, none);
    }

    @Override
    public Void visitNewArray(NewArrayTree tree, Void none) {
        lookAtMaker(tree);
        return super.visitNewArray(tree, none);
    }

    /** What is made by calls is one small object each: all else is made once, with the object. */
    private void lookAtMaker(Tree tree) {
        String around = methodAround();
        due(12, around.isEmpty() || MAKERS.contains(around.replaceFirst(".*\\.", "")), at(tree));
    }

    @Override
    public Void visitBinary(BinaryTree tree, Void none) {
        if (tree.getKind() == Tree.Kind.DIVIDE || tree.getKind() == Tree.Kind.REMAINDER) {
            lookAtDivisor(tree.getRightOperand());
        }
        TypeMirror type = trees.getTypeMirror(getCurrentPath());
        due(10, !type.toString().equals("java.lang.String"), "texts are not joined by +: " + at(tree));
        return super.visitBinary(tree, none);
    }

    @Override
    public Void visitCompoundAssignment(CompoundAssignmentTree tree, Void none) {
        if (tree.getKind() == Tree.Kind.DIVIDE_ASSIGNMENT || tree.getKind() == Tree.Kind.REMAINDER_ASSIGNMENT) {
            lookAtDivisor(tree.getExpression());
        }
        return super.visitCompoundAssignment(tree, none);
    }

    private void lookAtDivisor(ExpressionTree divisor) {
        due(7, DIVISORS.contains(divisor.toString()), "is this looked at before it divides? " + at(divisor));
    }

    @Override
    public Void visitForLoop(ForLoopTree tree, Void none) {
        due(9, tree.getCondition() != null && !tree.getUpdate().isEmpty(), at(tree));
        return super.visitForLoop(tree, none);
    }

    @Override
    public Void visitWhileLoop(WhileLoopTree tree, Void none) {
        due(9, !(tree.getCondition() instanceof LiteralTree) && tree.toString().contains("++"), at(tree));
        return super.visitWhileLoop(tree, none);
    }

    /** How many calls stand open at most when this one does; what calls itself is told as a fault. */
    private int depthOf(String method, Deque<String> open) {
        if (open.contains(method)) {
            due(8, false, method + " calls itself: " + open);
            return 0;
        }
        open.push(method);
        int deepest = 0;
        for (String called : calls.getOrDefault(method, Set.of())) {
            deepest = Math.max(deepest, depthOf(called, open));
        }
        open.pop();
        return deepest + 1;
    }

    private int lookAtDepth() {
        int deepest = 0;
        for (String method : calls.keySet()) {
            deepest = Math.max(deepest, depthOf(method, new ArrayDeque<>()));
        }
        due(11, deepest <= DEEPEST, "calls go " + deepest + " deep");
        return deepest;
    }

    public static void main(String[] args) throws Exception {
        JavaCompiler compiler = ToolProvider.getSystemJavaCompiler();
        StandardJavaFileManager files = compiler.getStandardFileManager(null, null, null);
        JavacTask task = (JavacTask) compiler.getTask(null, files, null, List.of("-proc:none"), null,
                files.getJavaFileObjects(PROGRAM));
        CompilationUnitTree unit = task.parse().iterator().next();
        task.analyze();
        LanguageTest test = new LanguageTest(unit, Trees.instance(task));
        test.scan(unit, null);
        int deepest = test.lookAtDepth();
        test.due(11, test.classes <= MOST_CLASSES, test.classes + " classes");
        test.due(4, Files.readString(PROGRAM).chars().allMatch(c -> c < 128), "a sign that is not of 1 to 127");
        System.out.println("the language: " + test.classes + " classes, calls " + deepest + " deep, " + test.wrong
                + " wrong");
        if (test.wrong != 0) {
            System.exit(1);
        }
    }
}
