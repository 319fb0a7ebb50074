import com.sun.source.tree.AssertTree;
import com.sun.source.tree.ClassTree;
import com.sun.source.tree.CompilationUnitTree;
import com.sun.source.tree.InstanceOfTree;
import com.sun.source.tree.LambdaExpressionTree;
import com.sun.source.tree.MemberReferenceTree;
import com.sun.source.tree.MethodInvocationTree;
import com.sun.source.tree.MethodTree;
import com.sun.source.tree.NewArrayTree;
import com.sun.source.tree.NewClassTree;
import com.sun.source.tree.SynchronizedTree;
import com.sun.source.tree.ThrowTree;
import com.sun.source.tree.Tree;
import com.sun.source.tree.TryTree;
import com.sun.source.tree.TypeCastTree;
import com.sun.source.tree.VariableTree;
import com.sun.source.util.JavacTask;
import com.sun.source.util.TreePath;
import com.sun.source.util.TreePathScanner;
import com.sun.source.util.Trees;
import java.io.File;
import java.io.IOException;
import java.util.LinkedHashMap;
import java.util.LinkedHashSet;
import java.util.List;
import java.util.Map;
import java.util.Set;
import javax.lang.model.element.Element;
import javax.lang.model.element.ElementKind;
import javax.lang.model.element.Modifier;
import javax.tools.JavaCompiler;
import javax.tools.JavaFileObject;
import javax.tools.StandardJavaFileManager;
import javax.tools.ToolProvider;

/** The rules of LANGUAGE.md that can be seen in the program's tree, as the compiler reads it. */
public final class LanguageTest extends TreePathScanner<Void, Void> {
    private static final Check CHECK = new Check();
    private static final String PROGRAM = "src/main/java/DialPlan.java";
    /** One less than the eight of rule 11, so that it holds as well for one who counts the caller. */
    private static final int DEPTH = 7;
    private static final int LINES = 60, PARAMETERS = 7, CLASSES = 12, FIELDS = 20;
    private static final Set<String> LIBRARY = Set.of("Math.max", "Math.min", "Math.abs", "Integer.bitCount");

    private final CompilationUnitTree unit;
    private final Trees trees;
    private final Map<Element, Set<Element>> calls = new LinkedHashMap<>();
    private Element caller;
    private int classes = 0;

    private LanguageTest(CompilationUnitTree unit, Trees trees) {
        this.unit = unit;
        this.trees = trees;
    }

    public static void main(String[] args) throws IOException {
        JavaCompiler compiler = ToolProvider.getSystemJavaCompiler();
        try (StandardJavaFileManager files = compiler.getStandardFileManager(null, null, null)) {
            Iterable<? extends JavaFileObject> sources = files.getJavaFileObjects(new File(PROGRAM));
            JavacTask task = (JavacTask) compiler.getTask(null, files, null, List.of("-proc:none"), null, sources);
            CompilationUnitTree unit = task.parse().iterator().next();
            task.analyze();
            LanguageTest test = new LanguageTest(unit, Trees.instance(task));
            test.scan(unit, null);
            test.whole();
        }
        CHECK.finish();
    }

    private String at(Tree tree) {
        long start = trees.getSourcePositions().getStartPosition(unit, tree);
        return "line " + unit.getLineMap().getLineNumber(start) + ", ";
    }

    private int linesOf(Tree tree) {
        long start = trees.getSourcePositions().getStartPosition(unit, tree);
        long end = trees.getSourcePositions().getEndPosition(unit, tree);
        return (int) (unit.getLineMap().getLineNumber(end) - unit.getLineMap().getLineNumber(start)) + 1;
    }

    private void never(int rule, Tree tree) {
        CHECK.holds("rule " + rule + ": " + at(tree) + "no " + tree.getKind(), false);
    }

    // ---- what one piece of the tree tells

    @Override
    public Void visitClass(ClassTree tree, Void none) {
        classes++;
        boolean isOutermost = getCurrentPath().getParentPath().getLeaf() == unit;
        boolean isMember = getCurrentPath().getParentPath().getLeaf() instanceof ClassTree;
        boolean isStatic = tree.getModifiers().getFlags().contains(Modifier.STATIC);
        CHECK.holds("rule 2: " + at(tree) + tree.getSimpleName() + " is static inside the class", isOutermost || isMember && isStatic);
        int fields = 0;
        for (Tree member : tree.getMembers()) {
            CHECK.holds("rule 5: " + at(member) + "no block in a class", member.getKind() != Tree.Kind.BLOCK);
            if (member instanceof VariableTree field && !field.getModifiers().getFlags().contains(Modifier.STATIC)) {
                fields++;
            }
        }
        CHECK.holds("rule 11: " + tree.getSimpleName() + " has some twenty fields at most", fields <= FIELDS);
        return super.visitClass(tree, none);
    }

    @Override
    public Void visitMethod(MethodTree tree, Void none) {
        CHECK.holds("rule 11: " + tree.getName() + " takes at most seven parameters", tree.getParameters().size() <= PARAMETERS);
        CHECK.holds("rule 11: " + tree.getName() + " is short", linesOf(tree) <= LINES);
        caller = trees.getElement(getCurrentPath());
        calls.computeIfAbsent(caller, method -> new LinkedHashSet<>());
        super.visitMethod(tree, none);
        caller = null;
        return null;
    }

    @Override
    public Void visitVariable(VariableTree tree, Void none) {
        boolean isStatic = tree.getModifiers().getFlags().contains(Modifier.STATIC);
        if (isStatic) {
            CHECK.holds("rule 5: " + tree.getName() + " is final", tree.getModifiers().getFlags().contains(Modifier.FINAL));
            String type = tree.getType().toString();
            CHECK.holds("rule 5: " + tree.getName() + " is a number", type.equals("int") || type.equals("long"));
        }
        boolean isField = getCurrentPath().getParentPath().getLeaf() instanceof ClassTree;
        if (isField && !isStatic) {
            caller = constructorOf(trees.getElement(getCurrentPath().getParentPath()));
            super.visitVariable(tree, none);
            caller = null;
            return null;
        }
        return super.visitVariable(tree, none);
    }

    /** What stands at a field is done by the constructor; each class here has one. */
    private Element constructorOf(Element owner) {
        for (Element member : owner.getEnclosedElements()) {
            if (member.getKind() == ElementKind.CONSTRUCTOR) {
                calls.computeIfAbsent(member, method -> new LinkedHashSet<>());
                return member;
            }
        }
        return null;
    }

    @Override
    public Void visitMethodInvocation(MethodInvocationTree tree, Void none) {
        noteCall(trees.getElement(new TreePath(getCurrentPath(), tree.getMethodSelect())), tree);
        return super.visitMethodInvocation(tree, none);
    }

    @Override
    public Void visitNewClass(NewClassTree tree, Void none) {
        if (tree.getClassBody() != null) {
            never(2, tree);
        }
        madeInConstructor(tree);
        noteCall(trees.getElement(getCurrentPath()), tree);
        return super.visitNewClass(tree, none);
    }

    @Override
    public Void visitNewArray(NewArrayTree tree, Void none) {
        madeInConstructor(tree);
        return super.visitNewArray(tree, none);
    }

    /** More than rule 12 asks: README.md says that no call makes an object or an array. */
    private void madeInConstructor(Tree tree) {
        boolean isConstructor = caller != null && caller.getKind() == ElementKind.CONSTRUCTOR;
        CHECK.holds("rule 12: " + at(tree) + "objects and arrays are made by constructors alone", isConstructor);
    }

    private void noteCall(Element called, Tree tree) {
        if (called == null || caller == null) {
            return;
        }
        Element owner = called.getEnclosingElement();
        if (!owner.toString().startsWith("java.")) {
            calls.get(caller).add(called);
        } else if (called.getKind() != ElementKind.CONSTRUCTOR) {
            String name = owner.getSimpleName() + "." + called.getSimpleName();
            CHECK.holds("rule 4: " + at(tree) + name + " is in the library's list", LIBRARY.contains(name));
        }
    }

    @Override
    public Void visitThrow(ThrowTree tree, Void none) {
        never(6, tree);
        return super.visitThrow(tree, none);
    }

    @Override
    public Void visitTry(TryTree tree, Void none) {
        never(6, tree);
        return super.visitTry(tree, none);
    }

    @Override
    public Void visitSynchronized(SynchronizedTree tree, Void none) {
        never(6, tree);
        return super.visitSynchronized(tree, none);
    }

    @Override
    public Void visitAssert(AssertTree tree, Void none) {
        never(6, tree);
        return super.visitAssert(tree, none);
    }

    @Override
    public Void visitTypeCast(TypeCastTree tree, Void none) {
        never(6, tree);
        return super.visitTypeCast(tree, none);
    }

    @Override
    public Void visitInstanceOf(InstanceOfTree tree, Void none) {
        never(6, tree);
        return super.visitInstanceOf(tree, none);
    }

    @Override
    public Void visitLambdaExpression(LambdaExpressionTree tree, Void none) {
        never(2, tree);
        return super.visitLambdaExpression(tree, none);
    }

    @Override
    public Void visitMemberReference(MemberReferenceTree tree, Void none) {
        never(2, tree);
        return super.visitMemberReference(tree, none);
    }

    // ---- what the whole tree tells

    private void whole() {
        CHECK.holds("rule 11: some twelve classes at most", classes <= CLASSES);
        CHECK.holds("the calls were found", calls.size() > 100);
        for (Element method : calls.keySet()) {
            Set<Element> deepest = deepestFrom(method, new LinkedHashSet<>());
            CHECK.holds("rule 11: no more than " + DEPTH + " calls stand open at once: " + deepest, deepest.size() <= DEPTH);
        }
    }

    /** The longest chain of calls that begins with the one that is open and this one. */
    private Set<Element> deepestFrom(Element method, Set<Element> open) {
        if (!open.add(method)) {
            CHECK.holds("rule 8: " + method + " calls itself: " + open, false);
            return open;
        }
        Set<Element> deepest = new LinkedHashSet<>(open);
        for (Element next : calls.getOrDefault(method, Set.of())) {
            Set<Element> further = deepestFrom(next, new LinkedHashSet<>(open));
            if (further.size() > deepest.size()) {
                deepest = further;
            }
        }
        return deepest;
    }
}
