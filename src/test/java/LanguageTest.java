import com.sun.source.tree.BinaryTree;
import com.sun.source.tree.BlockTree;
import com.sun.source.tree.ClassTree;
import com.sun.source.tree.CompilationUnitTree;
import com.sun.source.tree.ImportTree;
import com.sun.source.tree.MethodInvocationTree;
import com.sun.source.tree.MethodTree;
import com.sun.source.tree.NewArrayTree;
import com.sun.source.tree.NewClassTree;
import com.sun.source.tree.Tree;
import com.sun.source.tree.VariableTree;
import com.sun.source.util.JavacTask;
import com.sun.source.util.SourcePositions;
import com.sun.source.util.TreePathScanner;
import com.sun.source.util.Trees;
import java.io.File;
import java.io.IOException;
import java.util.ArrayDeque;
import java.util.Deque;
import java.util.HashMap;
import java.util.HashSet;
import java.util.List;
import java.util.Map;
import java.util.Set;
import javax.lang.model.element.Element;
import javax.lang.model.element.ElementKind;
import javax.lang.model.element.Modifier;
import javax.lang.model.type.TypeKind;
import javax.tools.JavaCompiler;
import javax.tools.StandardJavaFileManager;
import javax.tools.ToolProvider;

/** The rules of LANGUAGE.md that can be seen in the tree that the compiler makes of the program. */
public final class LanguageTest extends TreePathScanner<Void, Void> {
    private static final String PROGRAM = "src/main/java/MailYard.java";
    /** What the program uses of that which rule 4 leaves. */
    private static final Set<String> LIBRARY = Set.of("java.util.Arrays.fill", "java.lang.System.arraycopy");
    /** What rules 2 and 6 leave out, and a throw, as the document has no call that throws. */
    private static final Set<Tree.Kind> LEFT_OUT = Set.of(
            Tree.Kind.LAMBDA_EXPRESSION, Tree.Kind.MEMBER_REFERENCE, Tree.Kind.THROW, Tree.Kind.TRY,
            Tree.Kind.SYNCHRONIZED, Tree.Kind.ASSERT);
    private static final int MOST_CLASSES = 12;
    private static final int MOST_FIELDS = 20;
    private static final int MOST_PARAMETERS = 7;
    private static final int MOST_LINES = 60;
    private static final int MOST_DEPTH = 8;

    private final Trees trees;
    private final CompilationUnitTree unit;
    private final Map<Element, Set<Element>> calls = new HashMap<>();
    private final Deque<MethodTree> open = new ArrayDeque<>();
    private int classes = 0;

    private LanguageTest(Trees trees, CompilationUnitTree unit) {
        this.trees = trees;
        this.unit = unit;
    }

    public static void main(String[] args) throws IOException {
        JavaCompiler compiler = ToolProvider.getSystemJavaCompiler();
        try (StandardJavaFileManager files = compiler.getStandardFileManager(null, null, null)) {
            JavacTask task = (JavacTask) compiler.getTask(null, files, null,
                    List.of("--release", "17", "-proc:none"), null, files.getJavaFileObjects(new File(PROGRAM)));
            CompilationUnitTree unit = task.parse().iterator().next();
            task.analyze();
            LanguageTest test = new LanguageTest(Trees.instance(task), unit);
            test.scan(unit, null);
            test.wholeFile();
        }
        Check.finish();
    }

    private void wholeFile() {
        Check.due("no package line", unit.getPackageName() == null, true);
        Check.due("one class outside all others", unit.getTypeDecls().size(), 1);
        Check.due("rule 11: " + classes + " classes", classes <= MOST_CLASSES, true);
        for (Element method : calls.keySet()) {
            int depth = depth(method, new HashSet<>());
            Check.due("rules 8 and 11: " + method + " goes " + depth + " deep", depth <= MOST_DEPTH, true);
        }
    }

    /** How many calls stand open at once, this one being the first; too many if one calls itself. */
    private int depth(Element method, Set<Element> above) {
        if (!above.add(method)) {
            return MOST_DEPTH + 1;
        }
        int deepest = 0;
        for (Element called : calls.getOrDefault(method, Set.of())) {
            deepest = Math.max(deepest, depth(called, above));
        }
        above.remove(method);
        return deepest + 1;
    }

    private String at(Tree tree) {
        return "line " + line(trees.getSourcePositions().getStartPosition(unit, tree));
    }

    private long line(long position) {
        return unit.getLineMap().getLineNumber(position);
    }

    private Element element(Tree tree) {
        return trees.getElement(trees.getPath(unit, tree));
    }

    @Override
    public Void scan(Tree tree, Void nothing) {
        if (tree != null) {
            Check.due(at(tree) + ": " + tree.getKind(), LEFT_OUT.contains(tree.getKind()), false);
        }
        return super.scan(tree, nothing);
    }

    @Override
    public Void visitImport(ImportTree tree, Void nothing) {
        Check.due("rule 4: import", tree.getQualifiedIdentifier() + "\n", "java.util.Arrays\n");
        return super.visitImport(tree, nothing);
    }

    @Override
    public Void visitClass(ClassTree tree, Void nothing) {
        classes++;
        boolean isMailYard = tree.getSimpleName().contentEquals("MailYard");
        boolean isStatic = tree.getModifiers().getFlags().contains(Modifier.STATIC);
        Check.due("rule 1: " + tree.getSimpleName() + " is static", isStatic, !isMailYard);
        int fields = 0;
        for (Tree member : tree.getMembers()) {
            if (member instanceof VariableTree) {
                fields += isStaticField((VariableTree) member) ? 0 : 1;
            }
            Check.due("rule 5: " + at(member) + ": static block",
                    member instanceof BlockTree && ((BlockTree) member).isStatic(), false);
        }
        Check.due("rule 11: " + fields + " fields of " + tree.getSimpleName(), fields <= MOST_FIELDS, true);
        return super.visitClass(tree, nothing);
    }

    private boolean isStaticField(VariableTree field) {
        Set<Modifier> flags = field.getModifiers().getFlags();
        if (!flags.contains(Modifier.STATIC)) {
            return false;
        }
        Check.due("rule 5: " + at(field) + ": final", flags.contains(Modifier.FINAL), true);
        return true;
    }

    @Override
    public Void visitMethod(MethodTree tree, Void nothing) {
        SourcePositions positions = trees.getSourcePositions();
        long lines = line(positions.getEndPosition(unit, tree)) - line(positions.getStartPosition(unit, tree)) + 1;
        Check.due("rule 11: lines of " + tree.getName() + ": " + lines, lines <= MOST_LINES, true);
        Check.due("rule 11: parameters of " + tree.getName(),
                tree.getParameters().size() <= MOST_PARAMETERS, true);
        open.push(tree);
        calls.put(element(tree), new HashSet<>());
        super.visitMethod(tree, nothing);
        open.pop();
        return null;
    }

    @Override
    public Void visitMethodInvocation(MethodInvocationTree tree, Void nothing) {
        Element called = element(tree);
        String owner = called.getEnclosingElement().toString();
        boolean isOwn = owner.equals("MailYard") || owner.startsWith("MailYard.");
        boolean isSuper = called.getKind() == ElementKind.CONSTRUCTOR;
        String name = owner + "." + called.getSimpleName();
        Check.due("rule 4: " + at(tree) + ": " + name, isOwn || isSuper || LIBRARY.contains(name), true);
        if (isOwn && !open.isEmpty()) {
            calls.get(element(open.peek())).add(called);
        }
        return super.visitMethodInvocation(tree, nothing);
    }

    /** The program's own rule, narrower than rule 12: all is made with the object itself. */
    private void madeInConstructor(Tree tree) {
        boolean isInMethod = !open.isEmpty() && element(open.peek()).getKind() != ElementKind.CONSTRUCTOR;
        Check.due("rule 12: " + at(tree) + ": made by a call", isInMethod, false);
    }

    @Override
    public Void visitNewClass(NewClassTree tree, Void nothing) {
        Check.due("rule 2: " + at(tree) + ": a class without a name", tree.getClassBody() != null, false);
        madeInConstructor(tree);
        return super.visitNewClass(tree, nothing);
    }

    @Override
    public Void visitNewArray(NewArrayTree tree, Void nothing) {
        madeInConstructor(tree);
        return super.visitNewArray(tree, nothing);
    }

    @Override
    public Void visitBinary(BinaryTree tree, Void nothing) {
        boolean isReference = trees.getTypeMirror(getCurrentPath()).getKind() == TypeKind.DECLARED;
        Check.due("rule 10: " + at(tree) + ": texts joined by +", isReference, false);
        return super.visitBinary(tree, nothing);
    }
}
