import com.sun.source.tree.AssertTree;
import com.sun.source.tree.BinaryTree;
import com.sun.source.tree.BlockTree;
import com.sun.source.tree.ClassTree;
import com.sun.source.tree.CompilationUnitTree;
import com.sun.source.tree.DoWhileLoopTree;
import com.sun.source.tree.ExpressionTree;
import com.sun.source.tree.ForLoopTree;
import com.sun.source.tree.ImportTree;
import com.sun.source.tree.LambdaExpressionTree;
import com.sun.source.tree.LiteralTree;
import com.sun.source.tree.MemberReferenceTree;
import com.sun.source.tree.MethodInvocationTree;
import com.sun.source.tree.MethodTree;
import com.sun.source.tree.NewArrayTree;
import com.sun.source.tree.NewClassTree;
import com.sun.source.tree.SynchronizedTree;
import com.sun.source.tree.ThrowTree;
import com.sun.source.tree.Tree;
import com.sun.source.tree.TryTree;
import com.sun.source.tree.VariableTree;
import com.sun.source.tree.WhileLoopTree;
import com.sun.source.util.JavacTask;
import com.sun.source.util.TreePath;
import com.sun.source.util.TreePathScanner;
import com.sun.source.util.Trees;
import java.io.File;
import java.util.ArrayDeque;
import java.util.Deque;
import java.util.HashMap;
import java.util.HashSet;
import java.util.List;
import java.util.Map;
import java.util.Set;
import java.util.TreeSet;
import javax.lang.model.element.Element;
import javax.lang.model.element.ElementKind;
import javax.lang.model.element.ExecutableElement;
import javax.lang.model.element.Modifier;
import javax.lang.model.element.TypeElement;
import javax.lang.model.type.TypeMirror;
import javax.lang.model.util.ElementFilter;
import javax.tools.JavaCompiler;
import javax.tools.StandardJavaFileManager;
import javax.tools.ToolProvider;

/** The rules of ../shared/LANGUAGE.md that can be read off the program's source; their numbers stand first. */
public final class LanguageTest extends TreePathScanner<Void, Void> {
    private static final String PROGRAM = "src/main/java/GlitchCourt.java";
    private static final Set<String> IMPORTS = Set.of("java.util.ArrayList", "java.util.Arrays", "java.util.Iterator",
            "java.util.List", "java.util.NoSuchElementException");
    private static final Set<String> CALLS = Set.of("String.length", "String.charAt", "String.isEmpty", "String.equals",
            "String.indexOf", "String.substring", "String.toCharArray", "System.arraycopy", "Arrays.copyOf",
            "Arrays.copyOfRange", "Arrays.fill", "Math.min", "Math.max", "Math.abs", "Math.floorDiv", "Math.floorMod",
            "Integer.bitCount", "Integer.numberOfTrailingZeros", "Integer.min", "Integer.max", "Long.bitCount",
            "Long.numberOfTrailingZeros", "Long.min", "Long.max");
    private static final Set<String> THROWN = Set.of("IllegalArgumentException", "NoSuchElementException");
    private static final Set<String> CONSTANTS = Set.of("int", "long", "boolean", "char", "java.lang.String");

    private final Trees trees;
    private final CompilationUnitTree unit;
    private final Deque<Element> makers = new ArrayDeque<>();
    private final Map<Element, Set<Element>> calls = new HashMap<>();
    private final Map<Element, Set<String>> thrown = new HashMap<>();
    private int classes = 0;

    private LanguageTest(Trees trees, CompilationUnitTree unit) {
        this.trees = trees;
        this.unit = unit;
    }

    public static void main(String[] args) throws Exception {
        JavaCompiler compiler = ToolProvider.getSystemJavaCompiler();
        try (StandardJavaFileManager files = compiler.getStandardFileManager(null, null, null)) {
            JavacTask task = (JavacTask) compiler.getTask(null, files, null, List.of("-proc:none"), null,
                    files.getJavaFileObjects(new File(PROGRAM)));
            for (CompilationUnitTree each : task.parse()) {
                task.analyze();
                new LanguageTest(Trees.instance(task), each).read();
            }
        }
        Due.close("LanguageTest");
    }

    private void read() {
        scan(unit, null);
        Due.equal("11 some twelve classes", classes <= 12, true);
        depths();
        exceptions();
    }

    private String place(Tree tree) {
        return " in line " + unit.getLineMap().getLineNumber(trees.getSourcePositions().getStartPosition(unit, tree));
    }

    private void ruledOut(String what, Tree tree) {
        Due.equal(what + place(tree), "there", "ruled out");
    }

    private Element elementOf(Tree tree) {
        return trees.getElement(TreePath.getPath(unit, tree));
    }

    // Rules 1, 2 and 4: the file and its classes

    @Override
    public Void visitImport(ImportTree tree, Void none) {
        Due.equal("4 import of " + tree.getQualifiedIdentifier(),
                IMPORTS.contains(tree.getQualifiedIdentifier().toString()), true);
        return null;
    }

    @Override
    public Void visitClass(ClassTree tree, Void none) {
        classes++;
        Element element = elementOf(tree);
        Due.equal("2 " + tree.getSimpleName() + " has a name", tree.getSimpleName().length() > 0, true);
        int fields = 0;
        for (Element each : ElementFilter.fieldsIn(element.getEnclosedElements())) {
            fields += each.getModifiers().contains(Modifier.STATIC) ? 0 : 1;
        }
        Due.equal("11 some twenty fields of " + element, fields <= 20, true);
        makers.push(ElementFilter.constructorsIn(element.getEnclosedElements()).get(0));
        super.visitClass(tree, none);
        makers.pop();
        return null;
    }

    @Override
    public Void visitVariable(VariableTree tree, Void none) {
        Element element = elementOf(tree);
        if (element.getKind() == ElementKind.FIELD && element.getModifiers().contains(Modifier.STATIC)) {
            Due.equal("5 final " + element, element.getModifiers().contains(Modifier.FINAL), true);
            Due.equal("5 a constant: " + element, CONSTANTS.contains(element.asType().toString()), true);
        }
        String type = element.asType().toString();
        Due.equal("3 one dimension, or two of numbers: " + element,
                type.endsWith("[][][]") || type.endsWith("[][]") && Character.isUpperCase(type.charAt(0)), false);
        return super.visitVariable(tree, none);
    }

    @Override
    public Void visitBlock(BlockTree tree, Void none) {
        if (getCurrentPath().getParentPath().getLeaf() instanceof ClassTree) {
            ruledOut("5 an initialiser block", tree);
        }
        return super.visitBlock(tree, none);
    }

    @Override
    public Void visitMethod(MethodTree tree, Void none) {
        long start = trees.getSourcePositions().getStartPosition(unit, tree);
        long end = trees.getSourcePositions().getEndPosition(unit, tree);
        if (start >= 0 && end >= 0) {
            long lines = unit.getLineMap().getLineNumber(end) - unit.getLineMap().getLineNumber(start) + 1;
            Due.equal("11 a short method: " + tree.getName() + place(tree), lines <= 60, true);
        }
        Due.equal("11 at most seven parameters: " + tree.getName(), tree.getParameters().size() <= 7, true);
        makers.push(elementOf(tree));
        super.visitMethod(tree, none);
        makers.pop();
        return null;
    }

    // Rules 2, 6, 9 and 10: what is ruled out

    @Override
    public Void visitLambdaExpression(LambdaExpressionTree tree, Void none) {
        ruledOut("2 a lambda", tree);
        return null;
    }

    @Override
    public Void visitMemberReference(MemberReferenceTree tree, Void none) {
        ruledOut("2 a method reference", tree);
        return null;
    }

    /** Rule 6 would allow some; but what the machine throws is never to be caught, and without any that is plain. */
    @Override
    public Void visitTry(TryTree tree, Void none) {
        ruledOut("6 try", tree);
        return null;
    }

    @Override
    public Void visitSynchronized(SynchronizedTree tree, Void none) {
        ruledOut("6 synchronized", tree);
        return null;
    }

    @Override
    public Void visitAssert(AssertTree tree, Void none) {
        ruledOut("6 assert", tree);
        return null;
    }

    @Override
    public Void visitForLoop(ForLoopTree tree, Void none) {
        bounded(tree, tree.getCondition());
        return super.visitForLoop(tree, none);
    }

    @Override
    public Void visitWhileLoop(WhileLoopTree tree, Void none) {
        bounded(tree, tree.getCondition());
        return super.visitWhileLoop(tree, none);
    }

    @Override
    public Void visitDoWhileLoop(DoWhileLoopTree tree, Void none) {
        bounded(tree, tree.getCondition());
        return super.visitDoWhileLoop(tree, none);
    }

    private void bounded(Tree loop, ExpressionTree condition) {
        String text = condition == null ? "" : condition.toString().replace("(", "").replace(")", "");
        Due.equal("9 a condition of the loop" + place(loop), text.isEmpty() || text.equals("true"), false);
    }

    @Override
    public Void visitBinary(BinaryTree tree, Void none) {
        TypeMirror type = trees.getTypeMirror(getCurrentPath());
        if (tree.getKind() == Tree.Kind.PLUS && type.toString().equals("java.lang.String")) {
            ruledOut("10 texts joined by +", tree);
        }
        return super.visitBinary(tree, none);
    }

    // Rules 6 and 12: exceptions and objects

    @Override
    public Void visitThrow(ThrowTree tree, Void none) {
        Element maker = makers.peek();
        Due.equal("6 no throw in a constructor" + place(tree), maker.getKind(), ElementKind.METHOD);
        if (tree.getExpression() instanceof NewClassTree made) {
            String name = made.getIdentifier().toString();
            Due.equal("6 an exception of the document" + place(tree), THROWN.contains(name), true);
            for (ExpressionTree each : made.getArguments()) {
                Due.equal("6 a written text" + place(tree), each instanceof LiteralTree, true);
            }
            thrown.computeIfAbsent(maker, m -> new TreeSet<>()).add(name);
        } else {
            ruledOut("6 a throw of what is not new", tree);
        }
        return null;
    }

    /** All rows are made in constructors and used again. */
    @Override
    public Void visitNewClass(NewClassTree tree, Void none) {
        Due.equal("12 made in a constructor" + place(tree), makers.peek().getKind(), ElementKind.CONSTRUCTOR);
        called(elementOf(tree), tree);
        return super.visitNewClass(tree, none);
    }

    @Override
    public Void visitNewArray(NewArrayTree tree, Void none) {
        Due.equal("12 made in a constructor" + place(tree), makers.peek().getKind(), ElementKind.CONSTRUCTOR);
        return super.visitNewArray(tree, none);
    }

    // Rules 4, 8 and 11: calls

    @Override
    public Void visitMethodInvocation(MethodInvocationTree tree, Void none) {
        called(elementOf(tree), tree);
        return super.visitMethodInvocation(tree, none);
    }

    private void called(Element element, Tree tree) {
        TypeElement owner = (TypeElement) element.getEnclosingElement();
        boolean own = owner.toString().startsWith("GlitchCourt");
        String name = owner.getSimpleName() + "." + element.getSimpleName();
        boolean root = owner.toString().equals("java.lang.Object") && element.getKind() == ElementKind.CONSTRUCTOR;
        Due.equal("4 call of " + name + place(tree), own || root || CALLS.contains(name), true);
        if (!root) {
            calls.computeIfAbsent(makers.peek(), m -> new HashSet<>()).add(element);
        }
    }

    /** How deep calls go from an element, itself and the library's functions counted. */
    private int depthOf(Element element, Deque<Element> open) {
        if (open.contains(element)) {
            Due.equal("8 a recursion by " + element, "there", "without a bound");
            return 0;
        }
        open.push(element);
        int deepest = 0;
        for (Element each : calls.getOrDefault(element, Set.of())) {
            deepest = Math.max(deepest, depthOf(each, open));
        }
        open.pop();
        return deepest + 1;
    }

    private void depths() {
        for (Element each : face()) {
            Due.equal("11 calls of " + each + " at most eight deep", depthOf(each, new ArrayDeque<>()) <= 8, true);
        }
    }

    private List<ExecutableElement> face() {
        for (Element each : calls.keySet()) {
            if (each.getEnclosingElement().getSimpleName().contentEquals("GlitchCourt")) {
                List<? extends Element> members = each.getEnclosingElement().getEnclosedElements();
                List<ExecutableElement> all = new java.util.ArrayList<>(ElementFilter.methodsIn(members));
                all.addAll(ElementFilter.constructorsIn(members));
                all.removeIf(e -> !e.getModifiers().contains(Modifier.PUBLIC));
                return all;
            }
        }
        return List.of();
    }

    private Set<String> thrownBy(Element element) {
        Set<String> all = new TreeSet<>(thrown.getOrDefault(element, Set.of()));
        for (Element each : calls.getOrDefault(element, Set.of())) {
            all.addAll(thrownBy(each));
        }
        return all;
    }

    /** What a call of the face can throw is what its signature in the document names. */
    private void exceptions() {
        List<ExecutableElement> face = face();
        Due.equal("1 the methods and the constructor", face.size(), 44);
        for (ExecutableElement each : face) {
            Set<String> named = new TreeSet<>();
            for (TypeMirror type : each.getThrownTypes()) {
                named.add(type.toString().replaceAll(".*\\.", ""));
            }
            Due.equal("6 what " + each + " throws", thrownBy(each), named);
        }
    }
}
