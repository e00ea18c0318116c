import com.sun.source.tree.AssertTree;
import com.sun.source.tree.BinaryTree;
import com.sun.source.tree.BlockTree;
import com.sun.source.tree.CaseTree;
import com.sun.source.tree.ClassTree;
import com.sun.source.tree.CompilationUnitTree;
import com.sun.source.tree.DoWhileLoopTree;
import com.sun.source.tree.EnhancedForLoopTree;
import com.sun.source.tree.ForLoopTree;
import com.sun.source.tree.IdentifierTree;
import com.sun.source.tree.ImportTree;
import com.sun.source.tree.LambdaExpressionTree;
import com.sun.source.tree.LiteralTree;
import com.sun.source.tree.MemberReferenceTree;
import com.sun.source.tree.MemberSelectTree;
import com.sun.source.tree.MethodTree;
import com.sun.source.tree.NewArrayTree;
import com.sun.source.tree.NewClassTree;
import com.sun.source.tree.SynchronizedTree;
import com.sun.source.tree.ThrowTree;
import com.sun.source.tree.Tree;
import com.sun.source.tree.TryTree;
import com.sun.source.tree.TypeCastTree;
import com.sun.source.tree.VariableTree;
import com.sun.source.tree.WhileLoopTree;
import com.sun.source.util.JavacTask;
import com.sun.source.util.TreePath;
import com.sun.source.util.TreePathScanner;
import com.sun.source.util.Trees;
import java.io.IOException;
import java.nio.file.Files;
import java.nio.file.Path;
import java.util.ArrayDeque;
import java.util.Deque;
import java.util.List;
import java.util.Map;
import java.util.Set;
import java.util.TreeMap;
import java.util.TreeSet;
import javax.lang.model.element.Element;
import javax.lang.model.element.ElementKind;
import javax.lang.model.element.Modifier;
import javax.lang.model.type.TypeKind;
import javax.lang.model.type.TypeMirror;
import javax.tools.JavaCompiler;
import javax.tools.StandardJavaFileManager;
import javax.tools.ToolProvider;

/**
 * What of ../shared/LANGUAGE.md a reader of the program's tree can tell, and what the program keeps to beyond it: it
 * has no recursion, and no call makes an object or an array. Each method names its rule. (Run from the project's
 * folder.)
 */
public final class LanguageTest extends TreePathScanner<Void, Void> {
    private static final Path PROGRAM = Path.of("src/main/java/WallMirror.java");
    /** Of the library that rule 4 lists, what the program uses: what comes new is looked up there first. */
    private static final Set<String> LIBRARY = Set.of("java.lang.Integer.bitCount(int)", "java.lang.Math.max(int,int)",
        "java.lang.Math.min(int,int)", "java.lang.Math.abs(int)",
        "java.lang.System.arraycopy(java.lang.Object,int,java.lang.Object,int,int)");
    private static final int MOST_PARAMETERS = 7;
    private static final int MOST_LINES = 60;
    private static final int MOST_CALLS_DEEP = 8;
    private static final int MOST_CLASSES = 12;
    private static final int MOST_FIELDS = 20;

    private final Trees trees;
    private final CompilationUnitTree program;
    private final String code;
    private final Deque<String> methods = new ArrayDeque<>();
    /** By method, the program's own methods that it calls. */
    private final Map<String, Set<String>> calls = new TreeMap<>();
    private int classes = 0;

    private LanguageTest(Trees trees, CompilationUnitTree program, String code) {
        this.trees = trees;
        this.program = program;
        this.code = code;
    }

    public static void main(String[] args) throws IOException {
        JavaCompiler compiler = ToolProvider.getSystemJavaCompiler();
        try (StandardJavaFileManager files = compiler.getStandardFileManager(null, null, null)) {
            JavacTask task = (JavacTask) compiler.getTask(null, files, null, List.of("-proc:none"), null,
                files.getJavaFileObjects(PROGRAM));
            CompilationUnitTree program = task.parse().iterator().next();
            task.analyze();
            new LanguageTest(Trees.instance(task), program, Files.readString(PROGRAM)).look();
        }
        Due.end();
    }

    private void look() {
        onlyPlainSigns();
        Due.due("package (the page: none)", program.getPackageName() == null ? 0 : 1, 0);
        Due.due("classes beside the public one in the file (the page: one file, one class)",
            program.getTypeDecls().size(), 1);
        scan(program, null);
        due("11", "at most " + MOST_CLASSES + " classes, here " + classes, classes <= MOST_CLASSES);
        for (String method : calls.keySet()) {
            int deep = depth(method, new TreeSet<>());
            due("8, 11", method + " calls " + deep + " deep", deep <= MOST_CALLS_DEEP);
        }
        due("all", "methods were found", calls.size() > 31);
    }

    private void due(String rule, String what, boolean kept) {
        Due.due("rule " + rule + ": " + what, kept ? 1 : 0, 1);
    }

    private String at(Tree tree) {
        long from = trees.getSourcePositions().getStartPosition(program, tree);
        return " in line " + program.getLineMap().getLineNumber(from);
    }

    private void never(String rule, String what, Tree tree) {
        due(rule, what + at(tree), false);
    }

    private Element element(Tree tree) {
        return trees.getElement(TreePath.getPath(program, tree));
    }

    private TypeMirror type(Tree tree) {
        return trees.getTypeMirror(TreePath.getPath(program, tree));
    }

    private static boolean isOwn(Element element) {
        for (Element around = element; around != null; around = around.getEnclosingElement()) {
            if (around.getKind() == ElementKind.CLASS && around.getSimpleName().contentEquals("WallMirror")) {
                return true;
            }
        }
        return false;
    }

    /** Rule 4: "constants, whose signs are 1 to 127"; comments keep to them, too. */
    private void onlyPlainSigns() {
        for (int i = 0; i < code.length(); i++) {
            char sign = code.charAt(i);
            if (sign != '\n' && (sign < ' ' || sign > '~')) {
                due("4", "no sign " + (int) sign + " at " + i, false);
            }
        }
    }

    // ---- rules 1, 2, 11: classes

    @Override
    public Void visitClass(ClassTree tree, Void none) {
        classes++;
        boolean isInside = classes > 1;
        Set<Modifier> flags = tree.getModifiers().getFlags();
        Tree.Kind around = getCurrentPath().getParentPath().getLeaf().getKind();
        due("1", tree.getSimpleName() + " is public only if it is outermost", isInside ^ flags.contains(Modifier.PUBLIC));
        due("2", tree.getSimpleName() + " is static, no local or anonymous one",
            !isInside || flags.contains(Modifier.STATIC) && around == Tree.Kind.CLASS);
        int fields = 0;
        for (Tree member : tree.getMembers()) {
            if (member instanceof VariableTree field && !field.getModifiers().getFlags().contains(Modifier.STATIC)) {
                fields++;
            }
            if (member instanceof BlockTree) {
                never("5", "an initialiser block", member);
            }
            if (isInside) {
                insideIsPrivate(member);
            }
        }
        due("11", tree.getSimpleName() + " has " + fields + " fields", fields <= MOST_FIELDS);
        return super.visitClass(tree, none);
    }

    /** Rule 1: what the classes inside hold is not open; FaceTest looks at the outermost one. */
    private void insideIsPrivate(Tree member) {
        Element element = element(member);
        if (element != null && element.getKind() != ElementKind.CONSTRUCTOR) {
            due("1", element + " is private", element.getModifiers().contains(Modifier.PRIVATE));
        }
    }

    // ---- rules 8, 11: methods

    @Override
    public Void visitMethod(MethodTree tree, Void none) {
        Element element = element(tree);
        String name = element.getEnclosingElement() + "." + element;
        long from = trees.getSourcePositions().getStartPosition(program, tree);
        long to = trees.getSourcePositions().getEndPosition(program, tree);
        if (to > 0) {
            long lines = program.getLineMap().getLineNumber(to) - program.getLineMap().getLineNumber(from) + 1;
            due("11", name + " has " + lines + " lines", lines <= MOST_LINES);
        }
        due("11", name + " takes few parameters", tree.getParameters().size() <= MOST_PARAMETERS);
        due("6", name + " names no exception", tree.getThrows().isEmpty());
        calls.put(name, new TreeSet<>());
        methods.push(name);
        super.visitMethod(tree, none);
        methods.pop();
        return null;
    }

    /** How many calls stand open at most; one that comes round to itself is as deep as can be. */
    private int depth(String method, Set<String> open) {
        if (!open.add(method)) {
            return MOST_CALLS_DEEP + 1;
        }
        int deepest = 0;
        for (String called : calls.getOrDefault(method, Set.of())) {
            deepest = Math.max(deepest, depth(called, open));
        }
        open.remove(method);
        return Math.min(deepest, MOST_CALLS_DEEP) + 1;
    }

    // ---- rules 3, 5: fields and variables

    @Override
    public Void visitVariable(VariableTree tree, Void none) {
        Element element = element(tree);
        due("3", tree.getName() + " is of a type that is listed" + at(tree), isTypeListed(element.asType()));
        boolean isField = element.getKind() == ElementKind.FIELD;
        if (isField && element.getModifiers().contains(Modifier.STATIC)) {
            due("5", tree.getName() + " is final", element.getModifiers().contains(Modifier.FINAL));
            boolean isRow = element.asType().getKind() == TypeKind.ARRAY;
            due("5", tree.getName() + " is a constant, or a row that is written out",
                isRow ? isWrittenOut(tree.getInitializer()) : element.asType().getKind().isPrimitive());
        }
        return super.visitVariable(tree, none);
    }

    private static boolean isTypeListed(TypeMirror type) {
        String name = type.toString();
        return Set.of("int", "long", "boolean", "int[]", "boolean[]").contains(name) || name.startsWith("WallMirror.");
    }

    private static boolean isWrittenOut(Tree initializer) {
        return initializer instanceof NewArrayTree row && row.getInitializers() != null
            && row.getInitializers().stream().allMatch(LiteralTree.class::isInstance);
    }

    // ---- rules 4, 13: the library

    @Override
    public Void visitIdentifier(IdentifierTree tree, Void none) {
        called(tree);
        return super.visitIdentifier(tree, none);
    }

    @Override
    public Void visitMemberSelect(MemberSelectTree tree, Void none) {
        called(tree);
        return super.visitMemberSelect(tree, none);
    }

    private void called(Tree tree) {
        Element element = element(tree);
        if (element == null || element.getSimpleName().contentEquals("super")) {
            return;
        }
        String name = element.getEnclosingElement() + "." + element;
        boolean isMethod = element.getKind() == ElementKind.METHOD;
        if (isOwn(element)) {
            if (isMethod && !methods.isEmpty()) {
                calls.get(methods.peek()).add(name);
            }
        } else if (isMethod) {
            due("4", name + " is listed" + at(tree), LIBRARY.contains(name));
        } else if (element.getKind() == ElementKind.FIELD) {
            never("4", name, tree);
        }
    }

    @Override
    public Void visitImport(ImportTree tree, Void none) {
        never("4", "an import", tree);
        return super.visitImport(tree, none);
    }

    // ---- rules 2, 6, 7, 10: what is not written

    @Override
    public Void visitLambdaExpression(LambdaExpressionTree tree, Void none) {
        never("2", "a lambda", tree);
        return super.visitLambdaExpression(tree, none);
    }

    @Override
    public Void visitMemberReference(MemberReferenceTree tree, Void none) {
        never("2", "a method reference", tree);
        return super.visitMemberReference(tree, none);
    }

    @Override
    public Void visitThrow(ThrowTree tree, Void none) {
        never("6", "throw", tree);
        return super.visitThrow(tree, none);
    }

    @Override
    public Void visitTry(TryTree tree, Void none) {
        never("6", "try", tree);
        return super.visitTry(tree, none);
    }

    @Override
    public Void visitSynchronized(SynchronizedTree tree, Void none) {
        never("6", "synchronized", tree);
        return super.visitSynchronized(tree, none);
    }

    @Override
    public Void visitAssert(AssertTree tree, Void none) {
        never("6", "assert", tree);
        return super.visitAssert(tree, none);
    }

    @Override
    public Void visitTypeCast(TypeCastTree tree, Void none) {
        due("6", "a cast of numbers alone" + at(tree), type(tree).getKind().isPrimitive());
        return super.visitTypeCast(tree, none);
    }

    @Override
    public Void visitCase(CaseTree tree, Void none) {
        due("6, 10", "a case of numbers" + at(tree),
            tree.getExpressions().stream().allMatch(label -> type(label).getKind().isPrimitive()));
        return super.visitCase(tree, none);
    }

    @Override
    public Void visitBinary(BinaryTree tree, Void none) {
        due("10", "no text is joined by +" + at(tree), type(tree).getKind().isPrimitive());
        return super.visitBinary(tree, none);
    }

    // ---- rules 9, 12: loops, and what is made

    @Override
    public Void visitForLoop(ForLoopTree tree, Void none) {
        due("9", "a loop with a counter and a bound" + at(tree),
            !tree.getInitializer().isEmpty() && tree.getCondition() != null && tree.getUpdate().size() == 1);
        return super.visitForLoop(tree, none);
    }

    @Override
    public Void visitWhileLoop(WhileLoopTree tree, Void none) {
        never("9", "a loop without a counter", tree);
        return super.visitWhileLoop(tree, none);
    }

    @Override
    public Void visitDoWhileLoop(DoWhileLoopTree tree, Void none) {
        never("9", "a loop without a counter", tree);
        return super.visitDoWhileLoop(tree, none);
    }

    @Override
    public Void visitEnhancedForLoop(EnhancedForLoopTree tree, Void none) {
        never("9", "a loop without a counter", tree);
        return super.visitEnhancedForLoop(tree, none);
    }

    @Override
    public Void visitNewClass(NewClassTree tree, Void none) {
        due("12", "an object made with the mirror, not by a call" + at(tree), methods.isEmpty());
        return super.visitNewClass(tree, none);
    }

    @Override
    public Void visitNewArray(NewArrayTree tree, Void none) {
        due("12", "an array made with the mirror, not by a call" + at(tree), methods.isEmpty());
        return super.visitNewArray(tree, none);
    }
}
