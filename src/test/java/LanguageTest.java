import com.sun.source.tree.*;
import com.sun.source.util.JavacTask;
import com.sun.source.util.TreePathScanner;
import com.sun.source.util.Trees;
import java.nio.file.Files;
import java.nio.file.Path;
import java.util.ArrayList;
import java.util.HashMap;
import java.util.HashSet;
import java.util.LinkedHashMap;
import java.util.LinkedHashSet;
import java.util.List;
import java.util.Map;
import java.util.Set;
import javax.lang.model.element.Element;
import javax.lang.model.element.ElementKind;
import javax.lang.model.element.ExecutableElement;
import javax.lang.model.element.Modifier;
import javax.lang.model.element.TypeElement;
import javax.lang.model.type.ArrayType;
import javax.lang.model.type.DeclaredType;
import javax.lang.model.type.TypeKind;
import javax.lang.model.type.TypeMirror;
import javax.tools.JavaCompiler;
import javax.tools.StandardJavaFileManager;
import javax.tools.ToolProvider;

/**
 * ../shared/LANGUAGE.md, rule by rule, on the class as the compiler understands it (its tree, with what each name
 * means). Of rules 7 and 12 only what a tree shows; the rest of them the runs of calls show. FaceTest has rule 1.
 * With a path as argument it reads another file of that name.
 */
public final class LanguageTest extends TreePathScanner<Void, Void> {
    private static final int MOST_PARAMETERS = 7, LONGEST_METHOD = 60, DEEPEST_CALLS = 8, MOST_CLASSES = 12, MOST_FIELDS = 20;
    private static final Set<String> IMPORTS = Set.of("java.util.Arrays", "java.util.ArrayList", "java.util.List", "java.util.Iterator");
    private static final Set<String> LIBRARY_TYPES = Set.of("java.lang.String", "java.lang.StringBuilder", "java.lang.Integer",
        "java.util.ArrayList", "java.util.List", "java.util.Iterator", "java.lang.Iterable", "java.lang.Comparable");
    private static final Set<String> LIBRARY = Set.of(
        "String.length", "String.charAt", "String.isEmpty", "String.equals", "String.indexOf", "String.substring", "String.toCharArray",
        "StringBuilder.append", "StringBuilder.charAt", "StringBuilder.setCharAt", "StringBuilder.setLength",
        "StringBuilder.deleteCharAt", "StringBuilder.reverse", "StringBuilder.length", "StringBuilder.toString",
        "List.add", "List.get", "List.set", "List.remove", "List.size", "List.isEmpty", "List.clear", "List.of",
        "ArrayList.add", "ArrayList.get", "ArrayList.set", "ArrayList.remove", "ArrayList.size", "ArrayList.isEmpty", "ArrayList.clear",
        "System.arraycopy", "Arrays.copyOf", "Arrays.copyOfRange", "Arrays.fill", "Array.clone");
    private static final Set<String> NUMBER_CLASSES = Set.of("Integer", "Long", "Math");

    private static int wrong = 0;

    private final CompilationUnitTree file;
    private final Trees trees;
    private final Map<ExecutableElement, MethodTree> methods = new LinkedHashMap<>();
    private final Map<ExecutableElement, Set<ExecutableElement>> calls = new HashMap<>();
    private ExecutableElement here;
    private int classes;

    private LanguageTest(CompilationUnitTree file, Trees trees) {
        this.file = file;
        this.trees = trees;
    }

    public static void main(String[] args) throws Exception {
        Path path = Path.of(args.length > 0 ? args[0] : "src/main/java/TableFirms.java");
        JavaCompiler compiler = ToolProvider.getSystemJavaCompiler();
        try (StandardJavaFileManager files = compiler.getStandardFileManager(null, null, null)) {
            JavacTask task = (JavacTask) compiler.getTask(null, files, null, List.of("-proc:none"), null, files.getJavaFileObjects(path));
            CompilationUnitTree file = task.parse().iterator().next();
            task.analyze();
            LanguageTest test = new LanguageTest(file, Trees.instance(task));
            test.scan(file, null);
            test.recursion();
            test.depth();
        }
        signs(Files.readString(path));
        System.out.println(wrong == 0 ? "the code keeps to the language" : wrong + " faults of language");
        if (wrong != 0) {
            System.exit(1);
        }
    }

    private static void signs(String text) {
        if (!text.chars().allMatch(c -> c == '\n' || c >= ' ' && c < 127)) {
            wrong++;
            System.out.println("rule 4: the code has signs beyond 126");
        }
    }

    private void check(boolean holds, int rule, Tree at, String what) {
        if (!holds) {
            wrong++;
            System.out.println("rule " + rule + ", line " + line(trees.getSourcePositions().getStartPosition(file, at)) + ": " + what);
        }
    }

    private long line(long position) {
        return position < 0 ? 0 : file.getLineMap().getLineNumber(position);
    }

    private Element named(Tree tree) {
        return trees.getElement(trees.getPath(file, tree));
    }

    private TypeMirror typed(Tree tree) {
        return trees.getTypeMirror(trees.getPath(file, tree));
    }

    private static boolean isOwn(TypeMirror type) {
        return type.getKind() == TypeKind.TYPEVAR || type.getKind() == TypeKind.DECLARED
            && ((TypeElement) ((DeclaredType) type).asElement()).getQualifiedName().toString().matches("TableFirms(\\..*)?");
    }

    private static boolean isStatic(Element element) {
        return element.getModifiers().contains(Modifier.STATIC);
    }

    // ---- the file and its classes: rules 1, 2, 5, 11

    @Override
    public Void visitCompilationUnit(CompilationUnitTree tree, Void none) {
        check(tree.getPackageName() == null, 1, tree, "a package line");
        check(tree.getTypeDecls().size() == 1, 1, tree, "one public class alone");
        for (ImportTree one : tree.getImports()) {
            check(!one.isStatic() && IMPORTS.contains(one.getQualifiedIdentifier().toString()), 4, one, "imported: " + one.getQualifiedIdentifier());
        }
        super.visitCompilationUnit(tree, none);
        check(classes <= MOST_CLASSES, 11, tree, classes + " classes");
        return null;
    }

    @Override
    public Void visitClass(ClassTree tree, Void none) {
        classes++;
        TypeElement type = (TypeElement) named(tree);
        boolean isOutermost = getCurrentPath().getParentPath().getLeaf() == file;
        if (!isOutermost) {
            check(getCurrentPath().getParentPath().getLeaf() instanceof ClassTree, 2, tree, "a local or anonymous class");
            check(isStatic(type), 2, tree, "an inner class that is not static");
            check(!type.getModifiers().contains(Modifier.PUBLIC) && !type.getModifiers().contains(Modifier.PROTECTED), 1, tree, "an open class inside");
        }
        int fields = 0;
        for (Element member : type.getEnclosedElements()) {
            fields += member.getKind() == ElementKind.FIELD && !isStatic(member) ? 1 : 0;
        }
        check(fields <= MOST_FIELDS, 11, tree, fields + " fields");
        return super.visitClass(tree, none);
    }

    @Override
    public Void visitVariable(VariableTree tree, Void none) {
        Element element = named(tree);
        allowed(element.asType(), tree);
        if (element.getKind() == ElementKind.FIELD && isStatic(element)) {
            check(element.getModifiers().contains(Modifier.FINAL), 5, tree, "a static field that is not final");
            boolean isWritten = tree.getInitializer() instanceof NewArrayTree made && made.getInitializers() != null;
            boolean isKept = tree.getInitializer() instanceof MethodInvocationTree && element.asType().getKind() == TypeKind.ARRAY;
            check(((javax.lang.model.element.VariableElement) element).getConstantValue() != null || isWritten || isKept, 5, tree,
                "a static field that is no constant");
        }
        return super.visitVariable(tree, none);
    }

    /** Rule 3. */
    private void allowed(TypeMirror type, Tree at) {
        TypeMirror kind = type;
        int dimensions = 0;
        while (kind.getKind() == TypeKind.ARRAY) {
            kind = ((ArrayType) kind).getComponentType();
            dimensions++;
        }
        boolean isPlain = kind.getKind().isPrimitive() || kind.getKind() == TypeKind.VOID;
        boolean isLibrary = kind.getKind() == TypeKind.DECLARED
            && LIBRARY_TYPES.contains(((TypeElement) ((DeclaredType) kind).asElement()).getQualifiedName().toString());
        check(isPlain || isLibrary || isOwn(kind), 3, at, "a type: " + type);
        check(dimensions <= (isPlain ? 2 : 1), 3, at, "an array of too many dimensions: " + type);
    }

    @Override
    public Void visitBlock(BlockTree tree, Void none) {
        check(!tree.isStatic(), 5, tree, "a static initialiser");
        return super.visitBlock(tree, none);
    }

    // ---- methods and what they call: rules 4, 8, 11, 12

    @Override
    public Void visitMethod(MethodTree tree, Void none) {
        ExecutableElement outer = here;
        here = (ExecutableElement) named(tree);
        methods.put(here, tree);
        calls.put(here, new LinkedHashSet<>());
        if (tree.getReturnType() != null) {
            allowed(here.getReturnType(), tree);
        }
        check(tree.getParameters().size() <= MOST_PARAMETERS, 11, tree, tree.getName() + " takes more than seven");
        check(tree.getThrows().isEmpty(), 6, tree, tree.getName() + " throws");
        long lines = line(trees.getSourcePositions().getEndPosition(file, tree)) - line(trees.getSourcePositions().getStartPosition(file, tree)) + 1;
        check(lines <= LONGEST_METHOD, 11, tree, tree.getName() + " has " + lines + " lines");
        super.visitMethod(tree, none);
        here = outer;
        return null;
    }

    @Override
    public Void visitMethodInvocation(MethodInvocationTree tree, Void none) {
        ExecutableElement called = (ExecutableElement) named(tree.getMethodSelect());
        boolean isConstructor = called.getKind() == ElementKind.CONSTRUCTOR;
        if (here != null && here.getKind() == ElementKind.CONSTRUCTOR && !isConstructor) {
            check(isStatic(called) && !takesOwn(tree), 12, tree, "a constructor hands out what it makes, or calls a method of it: " + tree);
        }
        if (isOwn(called.getEnclosingElement().asType())) {
            if (here != null) {
                calls.get(here).add(called);
            }
        } else if (!isConstructor) {
            String owner = called.getEnclosingElement().getSimpleName().toString();
            boolean isNumberCall = NUMBER_CLASSES.contains(owner) && isStatic(called) && !called.getSimpleName().toString().endsWith("Exact");
            check(isNumberCall || LIBRARY.contains(owner + "." + called.getSimpleName()), 4, tree, "called: " + owner + "." + called.getSimpleName());
            if (owner.equals("Arrays")) {
                check(((ArrayType) typed(tree.getArguments().get(0))).getComponentType().getKind().isPrimitive(), 4, tree, "Arrays over no numbers");
            }
        }
        return super.visitMethodInvocation(tree, none);
    }

    /** Whether an argument is the object itself or one that its field refers to. */
    private boolean takesOwn(MethodInvocationTree tree) {
        for (ExpressionTree argument : tree.getArguments()) {
            Element element = named(argument);
            boolean isReference = !typed(argument).getKind().isPrimitive();
            boolean isField = element != null && element.getKind() == ElementKind.FIELD && !isStatic(element);
            if (isReference && (isField || argument.toString().equals("this"))) {
                return true;
            }
        }
        return false;
    }

    @Override
    public Void visitNewClass(NewClassTree tree, Void none) {
        check(tree.getClassBody() == null, 2, tree, "an anonymous class");
        allowed(typed(tree), tree);
        ExecutableElement made = (ExecutableElement) named(tree);
        if (here != null && isOwn(typed(tree))) {
            calls.get(here).add(made);
        }
        return super.visitNewClass(tree, none);
    }

    @Override
    public Void visitNewArray(NewArrayTree tree, Void none) {
        allowed(typed(tree), tree);
        return super.visitNewArray(tree, none);
    }

    private boolean reaches(ExecutableElement from, ExecutableElement to, Set<ExecutableElement> seen) {
        for (ExecutableElement next : calls.getOrDefault(from, Set.of())) {
            if (next.equals(to) || seen.add(next) && reaches(next, to, seen)) {
                return true;
            }
        }
        return false;
    }

    /** Rule 8: a private static method that calls itself, private methods that call one another. */
    private void recursion() {
        for (ExecutableElement method : methods.keySet()) {
            boolean isInterface = method.getEnclosingElement().getKind() == ElementKind.INTERFACE;
            if (reaches(method, method, new HashSet<>()) && !isInterface) {
                boolean callsItself = calls.get(method).contains(method);
                check(method.getModifiers().contains(Modifier.PRIVATE), 8, methods.get(method), method + " is in a recursion and not private");
                check(!callsItself || isStatic(method), 8, methods.get(method), method + " calls itself and is not static");
                check(method.getParameters().stream().anyMatch(p -> p.asType().getKind() == TypeKind.INT), 8, methods.get(method),
                    method + " carries no depth");
            }
        }
    }

    private int deepest(ExecutableElement from, Set<ExecutableElement> open) {
        int most = 0;
        open.add(from);
        for (ExecutableElement next : calls.getOrDefault(from, Set.of())) {
            if (!open.contains(next)) {
                most = Math.max(most, deepest(next, open));
            }
        }
        open.remove(from);
        return most + 1;
    }

    /** Rule 11, each method of a recursion counted once. */
    private void depth() {
        for (ExecutableElement method : methods.keySet()) {
            int deep = deepest(method, new HashSet<>());
            check(deep <= DEEPEST_CALLS, 11, methods.get(method), method + " goes " + deep + " calls deep");
        }
    }

    // ---- statements and expressions: rules 2, 5, 6, 9, 10

    private Void never(int rule, Tree tree, String what) {
        check(false, rule, tree, what);
        return null;
    }

    @Override
    public Void visitLambdaExpression(LambdaExpressionTree tree, Void none) {
        return never(2, tree, "a lambda");
    }

    @Override
    public Void visitMemberReference(MemberReferenceTree tree, Void none) {
        return never(2, tree, "a method reference");
    }

    @Override
    public Void visitThrow(ThrowTree tree, Void none) {
        return never(6, tree, "throw");
    }

    @Override
    public Void visitTry(TryTree tree, Void none) {
        return never(6, tree, "try");
    }

    @Override
    public Void visitSynchronized(SynchronizedTree tree, Void none) {
        return never(6, tree, "synchronized");
    }

    @Override
    public Void visitAssert(AssertTree tree, Void none) {
        return never(6, tree, "assert");
    }

    @Override
    public Void visitBinary(BinaryTree tree, Void none) {
        TypeMirror left = typed(tree.getLeftOperand()), right = typed(tree.getRightOperand());
        if (tree.getKind() == Tree.Kind.PLUS) {
            check(left.getKind().isPrimitive() && right.getKind().isPrimitive(), 10, tree, "texts joined by +");
        }
        if (tree.getKind() == Tree.Kind.EQUAL_TO || tree.getKind() == Tree.Kind.NOT_EQUAL_TO) {
            check(!isText(left) || !isText(right), 6, tree, "two Strings or two Integers compared by " + tree);
        }
        return super.visitBinary(tree, none);
    }

    private static boolean isText(TypeMirror type) {
        return type.toString().equals("java.lang.String") || type.toString().equals("java.lang.Integer");
    }

    @Override
    public Void visitAssignment(AssignmentTree tree, Void none) {
        staysAsWritten(tree.getVariable());
        return super.visitAssignment(tree, none);
    }

    @Override
    public Void visitCompoundAssignment(CompoundAssignmentTree tree, Void none) {
        check(typed(tree.getVariable()).getKind().isPrimitive(), 10, tree, "texts joined by +=");
        staysAsWritten(tree.getVariable());
        return super.visitCompoundAssignment(tree, none);
    }

    @Override
    public Void visitUnary(UnaryTree tree, Void none) {
        if (tree.getKind().name().contains("CREMENT")) {
            staysAsWritten(tree.getExpression());
        }
        return super.visitUnary(tree, none);
    }

    private void staysAsWritten(ExpressionTree changed) {
        if (changed instanceof ArrayAccessTree access) {
            Element array = named(access.getExpression());
            check(array == null || array.getKind() != ElementKind.FIELD || !isStatic(array), 5, changed, "an array of constants is changed");
        }
    }

    @Override
    public Void visitForLoop(ForLoopTree tree, Void none) {
        ends(tree, tree.getCondition());
        return super.visitForLoop(tree, none);
    }

    @Override
    public Void visitWhileLoop(WhileLoopTree tree, Void none) {
        ends(tree, tree.getCondition());
        return super.visitWhileLoop(tree, none);
    }

    @Override
    public Void visitDoWhileLoop(DoWhileLoopTree tree, Void none) {
        ends(tree, tree.getCondition());
        return super.visitDoWhileLoop(tree, none);
    }

    /** Rule 9: a counter that the loop changes stands against a bound, and nothing but && joins the condition. */
    private void ends(Tree loop, ExpressionTree condition) {
        Set<String> compared = new HashSet<>();
        Set<String> changed = new HashSet<>();
        List<Tree> either = new ArrayList<>();
        if (condition != null) {
            new com.sun.source.util.TreeScanner<Void, Void>() {
                @Override
                public Void visitBinary(BinaryTree tree, Void none) {
                    String kind = tree.getKind().name();
                    if (kind.startsWith("LESS_THAN") || kind.startsWith("GREATER_THAN")) {
                        compared.add(tree.getLeftOperand().toString());
                        compared.add(tree.getRightOperand().toString());
                    } else if (kind.equals("CONDITIONAL_OR")) {
                        either.add(tree);
                    }
                    return super.visitBinary(tree, none);
                }
            }.scan(condition, null);
        }
        new com.sun.source.util.TreeScanner<Void, Void>() {
            @Override
            public Void visitUnary(UnaryTree tree, Void none) {
                if (tree.getKind().name().contains("CREMENT")) {
                    changed.add(tree.getExpression().toString());
                }
                return super.visitUnary(tree, none);
            }
        }.scan(loop, null);
        compared.retainAll(changed);
        check(either.isEmpty() && !compared.isEmpty(), 9, loop, "a loop whose end its lines do not show");
    }
}
