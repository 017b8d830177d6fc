import com.sun.source.tree.ArrayAccessTree;
import com.sun.source.tree.BinaryTree;
import com.sun.source.tree.BlockTree;
import com.sun.source.tree.ClassTree;
import com.sun.source.tree.CompilationUnitTree;
import com.sun.source.tree.ForLoopTree;
import com.sun.source.tree.IdentifierTree;
import com.sun.source.tree.ImportTree;
import com.sun.source.tree.MethodInvocationTree;
import com.sun.source.tree.MethodTree;
import com.sun.source.tree.NewArrayTree;
import com.sun.source.tree.NewClassTree;
import com.sun.source.tree.ThrowTree;
import com.sun.source.tree.Tree;
import com.sun.source.tree.TypeCastTree;
import com.sun.source.tree.VariableTree;
import com.sun.source.util.JavacTask;
import com.sun.source.util.TreePath;
import com.sun.source.util.TreePathScanner;
import com.sun.source.util.Trees;
import java.io.IOException;
import java.nio.file.Files;
import java.nio.file.Path;
import java.util.LinkedHashMap;
import java.util.List;
import java.util.Map;
import java.util.Set;
import java.util.TreeSet;
import javax.lang.model.element.Element;
import javax.lang.model.element.ExecutableElement;
import javax.lang.model.element.Modifier;
import javax.lang.model.element.TypeElement;
import javax.lang.model.type.ArrayType;
import javax.lang.model.type.TypeKind;
import javax.lang.model.type.TypeMirror;
import javax.tools.JavaCompiler;
import javax.tools.StandardJavaFileManager;
import javax.tools.ToolProvider;

/**
 * The rules of ../shared/LANGUAGE.md, each by its number, on the tree that the compiler makes of the class. What the
 * class does not use at all (texts, lists, catches, recursion, casts of its own classes) is refused altogether. It is
 * run in the project's folder.
 */
public final class LanguageTest extends TreePathScanner<Void, Void> {
    private static final Path FILE = Path.of("src/main/java/Holeworks.java");
    private static final int MOST_LINES = 60;
    private static final int MOST_CLASSES = 12;
    private static final int MOST_FIELDS = 20;
    private static final int MOST_PARAMETERS = 7;
    private static final int MOST_DEPTH = 8;

    private static final Set<String> IMPORTS = Set.of("java.util.NoSuchElementException");
    private static final Set<String> LIBRARY = Set.of("Integer.bitCount", "Long.bitCount");
    private static final Set<String> EXCEPTIONS = Set.of("IllegalStateException", "IllegalArgumentException",
            "IndexOutOfBoundsException", "NoSuchElementException");
    private static final Set<TypeKind> NUMBERS = Set.of(TypeKind.INT, TypeKind.LONG, TypeKind.SHORT, TypeKind.BYTE,
            TypeKind.CHAR, TypeKind.BOOLEAN, TypeKind.DOUBLE, TypeKind.FLOAT);
    private static final Set<Tree.Kind> COMPARISONS = Set.of(Tree.Kind.LESS_THAN, Tree.Kind.LESS_THAN_EQUAL,
            Tree.Kind.GREATER_THAN, Tree.Kind.GREATER_THAN_EQUAL, Tree.Kind.CONDITIONAL_AND);

    /** What stands nowhere in the class, by the rule that tells of it. */
    private static final Map<Tree.Kind, Integer> REFUSED = Map.of(Tree.Kind.LAMBDA_EXPRESSION, 2,
            Tree.Kind.MEMBER_REFERENCE, 2, Tree.Kind.TRY, 6, Tree.Kind.SYNCHRONIZED, 6, Tree.Kind.ASSERT, 6,
            Tree.Kind.SWITCH, 6, Tree.Kind.INSTANCE_OF, 6, Tree.Kind.WHILE_LOOP, 9, Tree.Kind.DO_WHILE_LOOP, 9,
            Tree.Kind.ENHANCED_FOR_LOOP, 9);

    private static final Check check = new Check("LanguageTest");

    private final CompilationUnitTree unit;
    private final Trees trees;
    /** For each method, and each constructor, what it calls itself. */
    private final Map<String, Set<String>> calls = new LinkedHashMap<>();
    private final Set<String> publicNames = new TreeSet<>();
    private final Set<String> hiddenNames = new TreeSet<>();
    private int classes = 0;

    private LanguageTest(CompilationUnitTree unit, Trees trees) {
        this.unit = unit;
        this.trees = trees;
    }

    public static void main(String[] args) throws IOException {
        JavaCompiler compiler = ToolProvider.getSystemJavaCompiler();
        try (StandardJavaFileManager files = compiler.getStandardFileManager(null, null, null)) {
            JavacTask task = (JavacTask) compiler.getTask(null, files, null, List.of("--release", "17", "-proc:none"),
                    null, files.getJavaFileObjects(FILE));
            CompilationUnitTree unit = task.parse().iterator().next();
            task.analyze();
            LanguageTest test = new LanguageTest(unit, Trees.instance(task));
            test.scan(unit, null);
            test.atTheEnd();
        }
        plainSigns();
        check.end();
    }

    private static void rule(int number, String what, boolean holds) {
        check.sentence("rule " + number);
        check.same(what, true, holds);
    }

    private static void plainSigns() throws IOException {
        String text = Files.readString(FILE);
        rule(4, "all signs are plain", text.chars().allMatch(sign -> sign == '\n' || sign > 31 && sign < 127));
    }

    private void atTheEnd() {
        rule(0, "one class stands outside of all", unit.getTypeDecls().size() == 1);
        rule(0, "no package line", unit.getPackage() == null);
        rule(11, "few classes: " + classes, classes <= MOST_CLASSES);
        for (String name : hiddenNames) {
            rule(1, name + " is no name of a public method", !publicNames.contains(name));
        }
        for (String method : calls.keySet()) {
            int depth = depthFrom(method, new TreeSet<>());
            rule(11, method + " goes " + depth + " deep", depth <= MOST_DEPTH);
        }
    }

    /** How many calls stand open at most, the method itself and a call of the library's counted. */
    private int depthFrom(String method, Set<String> open) {
        if (!open.add(method)) {
            rule(8, method + " does not call itself", false);
            return 0;
        }
        int deepest = 0;
        for (String called : calls.getOrDefault(method, Set.of())) {
            deepest = Math.max(deepest, depthFrom(called, open));
        }
        open.remove(method);
        return deepest + 1;
    }

    private String here() {
        MethodTree method = enclosing(MethodTree.class);
        return method == null ? "a class" : nameOf((ExecutableElement) elementOf(pathOf(method)));
    }

    private <T extends Tree> T enclosing(Class<T> kind) {
        for (TreePath path = getCurrentPath(); path != null; path = path.getParentPath()) {
            if (kind.isInstance(path.getLeaf())) {
                return kind.cast(path.getLeaf());
            }
        }
        return null;
    }

    private TreePath pathOf(Tree tree) {
        return trees.getPath(unit, tree);
    }

    private Element elementOf(TreePath path) {
        return trees.getElement(path);
    }

    private static String nameOf(ExecutableElement method) {
        TypeElement owner = (TypeElement) method.getEnclosingElement();
        return owner.getSimpleName() + "." + method.getSimpleName();
    }

    private static boolean isOwn(Element owner) {
        return owner instanceof TypeElement type && type.getQualifiedName().toString().startsWith("Holeworks");
    }

    private boolean isAllowed(TypeMirror type) {
        if (type.getKind() == TypeKind.ARRAY) {
            TypeMirror part = ((ArrayType) type).getComponentType();
            return part.getKind() != TypeKind.ARRAY && isAllowed(part);
        }
        return NUMBERS.contains(type.getKind()) || type.toString().startsWith("Holeworks");
    }

    private boolean isInConstructor() {
        MethodTree method = enclosing(MethodTree.class);
        return method != null && method.getReturnType() == null;
    }

    @Override
    public Void scan(Tree tree, Void none) {
        if (tree != null && REFUSED.containsKey(tree.getKind())) {
            rule(REFUSED.get(tree.getKind()), here() + " has a " + tree.getKind(), false);
        }
        return super.scan(tree, none);
    }

    @Override
    public Void visitImport(ImportTree tree, Void none) {
        String name = tree.getQualifiedIdentifier().toString();
        rule(4, "import " + name, IMPORTS.contains(name) && !tree.isStatic());
        return super.visitImport(tree, none);
    }

    @Override
    public Void visitClass(ClassTree tree, Void none) {
        classes++;
        String name = tree.getSimpleName().toString();
        Set<Modifier> modifiers = tree.getModifiers().getFlags();
        boolean isFace = name.equals("Holeworks");
        Set<Modifier> due = isFace ? Set.of(Modifier.PUBLIC, Modifier.FINAL)
                : Set.of(Modifier.PRIVATE, Modifier.STATIC, Modifier.FINAL);
        rule(1, name + " is " + modifiers, modifiers.equals(due));
        rule(2, name + " is a class, in a class", tree.getKind() == Tree.Kind.CLASS
                && (isFace || getCurrentPath().getParentPath().getLeaf() instanceof ClassTree));
        int fields = 0;
        for (Tree member : tree.getMembers()) {
            rule(5, name + " has no block of its own", !(member instanceof BlockTree));
            if (member instanceof VariableTree field) {
                fields += field.getModifiers().getFlags().contains(Modifier.STATIC) ? 0 : 1;
            }
        }
        rule(11, name + " has few fields: " + fields, fields <= MOST_FIELDS);
        return super.visitClass(tree, none);
    }

    @Override
    public Void visitVariable(VariableTree tree, Void none) {
        String what = here() + ": " + tree.getName();
        TypeMirror type = trees.getTypeMirror(getCurrentPath());
        rule(3, what + " is of the type " + type, isAllowed(type));
        if (getCurrentPath().getParentPath().getLeaf() instanceof ClassTree) {
            Set<Modifier> modifiers = tree.getModifiers().getFlags();
            boolean isConstant = modifiers.contains(Modifier.FINAL) && type.getKind().isPrimitive();
            rule(1, tree.getName() + " is private", modifiers.contains(Modifier.PRIVATE));
            rule(5, tree.getName() + " is a constant", isConstant || !modifiers.contains(Modifier.STATIC));
        }
        return super.visitVariable(tree, none);
    }

    @Override
    public Void visitMethod(MethodTree tree, Void none) {
        ExecutableElement method = (ExecutableElement) elementOf(getCurrentPath());
        String name = nameOf(method);
        calls.computeIfAbsent(name, each -> new TreeSet<>());
        boolean isPublic = method.getModifiers().contains(Modifier.PUBLIC);
        boolean isConstructor = tree.getReturnType() == null;
        if (!isConstructor) {
            (isPublic ? publicNames : hiddenNames).add(method.getSimpleName().toString());
            boolean isNothing = method.getReturnType().getKind() == TypeKind.VOID;
            rule(3, name + " answers an allowed type", isNothing || isAllowed(method.getReturnType()));
        }
        if (name.startsWith("Holeworks.")) {
            rule(1, name + " is public or private", isPublic || method.getModifiers().contains(Modifier.PRIVATE));
        } else {
            rule(1, name + " is not public", !isPublic && !method.getModifiers().contains(Modifier.PROTECTED));
        }
        rule(11, name + " takes few", tree.getParameters().size() <= MOST_PARAMETERS);
        long lines = lineOf(trees.getSourcePositions().getEndPosition(unit, tree))
                - lineOf(Math.max(0, trees.getSourcePositions().getStartPosition(unit, tree))) + 1;
        rule(11, name + " is short: " + lines, lines <= MOST_LINES);
        return super.visitMethod(tree, none);
    }

    private long lineOf(long position) {
        return position < 0 ? 0 : unit.getLineMap().getLineNumber(position);
    }

    @Override
    public Void visitMethodInvocation(MethodInvocationTree tree, Void none) {
        Element element = elementOf(pathOf(tree.getMethodSelect()));
        ExecutableElement method = (ExecutableElement) element;
        String name = nameOf(method);
        boolean isHidden = name.endsWith(".<init>") && name.startsWith("Object");
        if (!isHidden) {
            rule(4, here() + " calls " + name, isOwn(method.getEnclosingElement()) || LIBRARY.contains(name));
            calls.computeIfAbsent(here(), each -> new TreeSet<>()).add(name);
        }
        if (isInConstructor() && !isHidden) {
            rule(12, here() + " calls what no other class overrides", method.getModifiers().contains(Modifier.PRIVATE)
                    || method.getEnclosingElement().getModifiers().contains(Modifier.FINAL));
        }
        return super.visitMethodInvocation(tree, none);
    }

    @Override
    public Void visitNewClass(NewClassTree tree, Void none) {
        String name = tree.getIdentifier().toString();
        boolean isThrown = getCurrentPath().getParentPath().getLeaf() instanceof ThrowTree;
        rule(2, here() + " makes no class without a name", tree.getClassBody() == null);
        if (isThrown) {
            boolean isText = tree.getArguments().size() == 1
                    && tree.getArguments().get(0).getKind() == Tree.Kind.STRING_LITERAL;
            rule(6, here() + " throws " + name, EXCEPTIONS.contains(name) && isText);
        } else {
            rule(12, here() + " makes a " + name + ": only a constructor does", isInConstructor());
            rule(12, here() + " hands out nothing of what it makes", tree.getArguments().isEmpty());
            calls.computeIfAbsent(here(), each -> new TreeSet<>()).add(name + ".<init>");
        }
        return super.visitNewClass(tree, none);
    }

    @Override
    public Void visitNewArray(NewArrayTree tree, Void none) {
        rule(12, here() + " makes an array: only a constructor does", isInConstructor());
        return super.visitNewArray(tree, none);
    }

    @Override
    public Void visitThrow(ThrowTree tree, Void none) {
        rule(6, here() + " throws what it makes, and is no constructor",
                tree.getExpression() instanceof NewClassTree && !isInConstructor());
        return super.visitThrow(tree, none);
    }

    @Override
    public Void visitForLoop(ForLoopTree tree, Void none) {
        boolean isBound = tree.getCondition() != null && COMPARISONS.contains(tree.getCondition().getKind())
                && tree.getUpdate().size() == 1;
        rule(9, here() + ": a loop has a counter and a bound", isBound);
        return super.visitForLoop(tree, none);
    }

    @Override
    public Void visitBinary(BinaryTree tree, Void none) {
        TypeMirror type = trees.getTypeMirror(getCurrentPath());
        rule(10, here() + ": " + tree + " is a number or boolean", type.getKind().isPrimitive());
        if (tree.getKind() == Tree.Kind.REMAINDER) {
            rule(7, here() + ": " + tree + " divides by a written number",
                    tree.getRightOperand().getKind() == Tree.Kind.INT_LITERAL);
        }
        if (tree.getKind() == Tree.Kind.DIVIDE) {
            boolean isReal = type.getKind() == TypeKind.DOUBLE || type.getKind() == TypeKind.FLOAT;
            rule(7, here() + ": " + tree + " is no division that throws", isReal);
        }
        return super.visitBinary(tree, none);
    }

    @Override
    public Void visitTypeCast(TypeCastTree tree, Void none) {
        boolean isNumber = trees.getTypeMirror(getCurrentPath()).getKind().isPrimitive();
        rule(6, here() + ": " + tree + " is a cast to a number", isNumber);
        return super.visitTypeCast(tree, none);
    }

    @Override
    public Void visitIdentifier(IdentifierTree tree, Void none) {
        rule(12, here() + " does not hand out its own object", !tree.getName().contentEquals("this")
                || !(getCurrentPath().getParentPath().getLeaf() instanceof NewClassTree));
        return super.visitIdentifier(tree, none);
    }

    @Override
    public Void visitArrayAccess(ArrayAccessTree tree, Void none) {
        boolean isPlain = tree.getIndex() instanceof IdentifierTree;
        boolean isLooked = isPlain || tree.getIndex() instanceof ArrayAccessTree;
        rule(7, here() + ": " + tree + " has an index that can be looked at", isLooked);
        return super.visitArrayAccess(tree, none);
    }
}
