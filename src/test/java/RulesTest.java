import com.sun.source.tree.AssertTree;
import com.sun.source.tree.BinaryTree;
import com.sun.source.tree.BlockTree;
import com.sun.source.tree.ClassTree;
import com.sun.source.tree.CompilationUnitTree;
import com.sun.source.tree.DoWhileLoopTree;
import com.sun.source.tree.EnhancedForLoopTree;
import com.sun.source.tree.ExpressionTree;
import com.sun.source.tree.ForLoopTree;
import com.sun.source.tree.LambdaExpressionTree;
import com.sun.source.tree.LineMap;
import com.sun.source.tree.MemberReferenceTree;
import com.sun.source.tree.MethodInvocationTree;
import com.sun.source.tree.MethodTree;
import com.sun.source.tree.NewArrayTree;
import com.sun.source.tree.NewClassTree;
import com.sun.source.tree.SynchronizedTree;
import com.sun.source.tree.ThrowTree;
import com.sun.source.tree.Tree;
import com.sun.source.tree.TryTree;
import com.sun.source.tree.TypeCastTree;
import com.sun.source.tree.VariableTree;
import com.sun.source.tree.WhileLoopTree;
import com.sun.source.util.JavacTask;
import com.sun.source.util.TreePath;
import com.sun.source.util.TreePathScanner;
import com.sun.source.util.TreeScanner;
import com.sun.source.util.Trees;
import java.io.IOException;
import java.nio.file.Path;
import java.util.ArrayList;
import java.util.HashMap;
import java.util.HashSet;
import java.util.LinkedHashMap;
import java.util.List;
import java.util.Map;
import java.util.Set;
import java.util.TreeSet;
import javax.lang.model.element.Element;
import javax.lang.model.element.ElementKind;
import javax.lang.model.element.ExecutableElement;
import javax.lang.model.element.Modifier;
import javax.lang.model.element.VariableElement;
import javax.lang.model.type.ArrayType;
import javax.lang.model.type.TypeKind;
import javax.lang.model.type.TypeMirror;
import javax.tools.JavaCompiler;
import javax.tools.StandardJavaFileManager;
import javax.tools.ToolProvider;

/**
 * The rules of LANGUAGE.md that the compiler's own tree of the source shows (its path is the argument): what is
 * called, of which types all is, what is made where, how loops end, who calls whom and how deep.
 */
public final class RulesTest extends TreePathScanner<Void, Void> {
    private static final Set<String> LIBRARY = Set.of("java.lang.String.length", "java.lang.String.charAt",
            "java.lang.System.arraycopy", "java.util.Arrays.copyOf", "java.util.Arrays.fill", "java.lang.Math.max",
            "java.lang.Math.min");
    /** Constructors apart, only these may make objects: a text and an image, of which there is a number that is the most. */
    private static final Set<String> MAKERS = Set.of("ScriptReader.read", "RoundAnothers.image");
    private static final Set<Tree.Kind> DIVISIONS = Set.of(Tree.Kind.DIVIDE, Tree.Kind.REMAINDER);
    private static final Set<Tree.Kind> COMPARISONS = Set.of(Tree.Kind.LESS_THAN, Tree.Kind.LESS_THAN_EQUAL,
            Tree.Kind.GREATER_THAN, Tree.Kind.GREATER_THAN_EQUAL);
    private static final int DEEPEST = 8;
    private static int wrong;

    private final Trees trees;
    private final CompilationUnitTree unit;
    private final LineMap lines;
    private final Map<ExecutableElement, Set<ExecutableElement>> calls = new LinkedHashMap<>();
    private final Map<ExecutableElement, Integer> depths = new HashMap<>();
    private MethodTree method;
    private ExecutableElement caller;
    private int loops;
    private int classes;

    private RulesTest(Trees trees, CompilationUnitTree unit) {
        this.trees = trees;
        this.unit = unit;
        lines = unit.getLineMap();
    }

    public static void main(String[] args) throws IOException {
        Path source = Path.of(args.length > 0 ? args[0] : "src/main/java/RoundAnothers.java");
        JavaCompiler compiler = ToolProvider.getSystemJavaCompiler();
        try (StandardJavaFileManager files = compiler.getStandardFileManager(null, null, null)) {
            JavacTask task = (JavacTask) compiler.getTask(null, files, null, List.of("--release", "17"), null,
                    files.getJavaFileObjects(source));
            Iterable<? extends CompilationUnitTree> units = task.parse();
            task.analyze();
            for (CompilationUnitTree unit : units) {
                new RulesTest(Trees.instance(task), unit).read();
            }
        }
        System.out.println(wrong == 0 ? "the rules are kept" : wrong + " rules are not kept");
        System.exit(wrong == 0 ? 0 : 1);
    }

    private void read() {
        scan(unit, null);
        rule(classes > 0 && classes <= 12, null, 11, "at most some twelve classes: " + classes);
        Set<ExecutableElement> round = recursive();
        for (ExecutableElement m : round) {
            boolean carries = m.getParameters().stream().anyMatch(p -> p.getSimpleName().contentEquals("depth"));
            rule(carries && m.getModifiers().contains(Modifier.PRIVATE), null, 8, "carries its depth: " + m);
        }
        int deepest = 0;
        for (ExecutableElement m : calls.keySet()) {
            if (m.getModifiers().contains(Modifier.PUBLIC)) {
                deepest = Math.max(deepest, depth(m, round));
            }
        }
        rule(deepest > 1 && deepest <= DEEPEST, null, 11, "calls go eight deep at most: " + deepest);
        rule(calls.size() > 100, null, 0, "methods were seen: " + calls.size());
    }

    private void rule(boolean kept, Tree at, int number, String what) {
        if (!kept) {
            wrong++;
            long line = at == null ? 0 : lines.getLineNumber(trees.getSourcePositions().getStartPosition(unit, at));
            System.out.println("rule " + number + ", line " + line + ": " + what);
        }
    }

    // ---- who calls whom

    private Set<ExecutableElement> reached(ExecutableElement from) {
        Set<ExecutableElement> all = new HashSet<>();
        List<ExecutableElement> left = new ArrayList<>(calls.getOrDefault(from, Set.of()));
        while (!left.isEmpty()) {
            ExecutableElement m = left.remove(left.size() - 1);
            if (all.add(m)) {
                left.addAll(calls.getOrDefault(m, Set.of()));
            }
        }
        return all;
    }

    private Set<ExecutableElement> recursive() {
        Set<ExecutableElement> all = new HashSet<>();
        for (ExecutableElement m : calls.keySet()) {
            if (reached(m).contains(m)) {
                all.add(m);
            }
        }
        return all;
    }

    /** How many calls stand open at most, this one among them; what goes round is followed once. */
    private int depth(ExecutableElement m, Set<ExecutableElement> round) {
        Integer known = depths.get(m);
        if (known != null) {
            return known;
        }
        depths.put(m, 0);
        int below = 0;
        for (ExecutableElement next : calls.getOrDefault(m, Set.of())) {
            boolean back = round.contains(m) && round.contains(next) && reached(next).contains(m)
                    && next.getSimpleName().contentEquals("readNested");
            if (!back) {
                below = Math.max(below, depth(next, round));
            }
        }
        depths.put(m, below + 1);
        return below + 1;
    }

    @Override
    public Void visitMethodInvocation(MethodInvocationTree tree, Void none) {
        Element called = trees.getElement(getCurrentPath());
        String owner = called.getEnclosingElement().toString();
        if (owner.startsWith("RoundAnothers")) {
            calls.get(caller).add((ExecutableElement) called);
        } else if (called.getKind() != ElementKind.CONSTRUCTOR) {
            rule(LIBRARY.contains(owner + "." + called.getSimpleName()), tree, 4, "library: " + tree);
        }
        return super.visitMethodInvocation(tree, none);
    }

    // ---- classes, methods, fields

    @Override
    public Void visitClass(ClassTree tree, Void none) {
        classes++;
        Tree parent = getCurrentPath().getParentPath().getLeaf();
        boolean outer = parent == unit;
        Set<Modifier> flags = tree.getModifiers().getFlags();
        rule(outer || parent instanceof ClassTree, tree, 2, "no local class: " + tree.getSimpleName());
        rule(flags.contains(outer ? Modifier.PUBLIC : Modifier.STATIC), tree, 2, "static: " + tree.getSimpleName());
        rule(tree.getExtendsClause() == null && tree.getImplementsClause().isEmpty(), tree, 2, "alone: " + tree.getSimpleName());
        int fields = 0;
        for (Tree member : tree.getMembers()) {
            rule(!(member instanceof BlockTree), member, 5, "no initialiser block");
            if (member instanceof VariableTree) {
                fields += field((VariableTree) member) ? 1 : 0;
            }
        }
        rule(fields <= 20, tree, 11, "some twenty fields: " + tree.getSimpleName() + " " + fields);
        return super.visitClass(tree, none);
    }

    /** Whether it is a field of each object. */
    private boolean field(VariableTree tree) {
        Set<Modifier> flags = tree.getModifiers().getFlags();
        if (!flags.contains(Modifier.STATIC)) {
            return true;
        }
        boolean array = tree.getType().toString().equals("int[]");
        boolean plain = Set.of("int", "long", "boolean", "char", "String").contains(tree.getType().toString());
        boolean writtenOut = tree.getInitializer() instanceof NewArrayTree
                && ((NewArrayTree) tree.getInitializer()).getInitializers() != null;
        rule(flags.contains(Modifier.FINAL) && (plain || array && writtenOut), tree, 5, "a constant: " + tree.getName());
        return false;
    }

    @Override
    public Void visitMethod(MethodTree tree, Void none) {
        method = tree;
        caller = (ExecutableElement) trees.getElement(getCurrentPath());
        calls.putIfAbsent(caller, new HashSet<>());
        boolean face = tree.getModifiers().getFlags().contains(Modifier.PUBLIC);
        rule(face || tree.getParameters().size() <= 7, tree, 11, "seven parameters: " + tree.getName());
        rule(!Set.of("equals", "hashCode", "toString").contains(tree.getName().toString()), tree, 6, "no " + tree.getName());
        long from = trees.getSourcePositions().getStartPosition(unit, tree);
        long to = trees.getSourcePositions().getEndPosition(unit, tree);
        // A constructor that is not written has no end.
        long length = to < 0 ? 0 : lines.getLineNumber(to) - lines.getLineNumber(from);
        rule(length <= 60, tree, 11, "some sixty lines: " + tree.getName() + " " + length);
        if (tree.getReturnType() != null) {
            type(caller.getReturnType(), tree);
        }
        Void answer = super.visitMethod(tree, none);
        method = null;
        return answer;
    }

    @Override
    public Void visitVariable(VariableTree tree, Void none) {
        type(trees.getElement(getCurrentPath()).asType(), tree);
        return super.visitVariable(tree, none);
    }

    private void type(TypeMirror type, Tree at) {
        TypeMirror part = type;
        int dimensions = 0;
        while (part.getKind() == TypeKind.ARRAY) {
            part = ((ArrayType) part).getComponentType();
            dimensions++;
        }
        boolean whole = part.getKind().isPrimitive() && part.getKind() != TypeKind.DOUBLE && part.getKind() != TypeKind.FLOAT;
        boolean known = whole || part.getKind() == TypeKind.VOID || part.toString().equals("java.lang.String")
                || part.toString().startsWith("RoundAnothers");
        rule(known && dimensions <= (whole ? 2 : 1), at, 3, "type: " + type);
    }

    // ---- what is made

    private String place() {
        return caller == null ? "" : caller.getEnclosingElement().getSimpleName() + "." + caller.getSimpleName();
    }

    private void made(Tree tree) {
        boolean written = method == null;
        boolean constructor = !written && method.getReturnType() == null;
        rule(written || constructor || MAKERS.contains(place()), tree, 12, "made in " + place() + ": " + tree);
        rule(loops == 0 || constructor, tree, 12, "made in a loop: " + tree);
    }

    @Override
    public Void visitNewClass(NewClassTree tree, Void none) {
        made(tree);
        rule(tree.getClassBody() == null, tree, 2, "no class without a name");
        return super.visitNewClass(tree, none);
    }

    @Override
    public Void visitNewArray(NewArrayTree tree, Void none) {
        made(tree);
        for (ExpressionTree length : tree.getDimensions()) {
            rule(constant(length), tree, 7, "a length that is not told: " + tree);
        }
        return super.visitNewArray(tree, none);
    }

    /** Numbers and names of constants alone. */
    private static boolean constant(ExpressionTree tree) {
        return tree.toString().matches("[A-Z0-9_ +*()]+|Tape\\.MOST( \\+ [A-Z0-9_ *]+)?");
    }

    // ---- loops, divisors, casts, what there must not be

    private void loop(Tree tree, ExpressionTree until) {
        Set<Boolean> bounded = new TreeSet<>();
        if (until != null) {
            new TreeScanner<Void, Void>() {
                @Override
                public Void visitBinary(BinaryTree part, Void none) {
                    bounded.add(COMPARISONS.contains(part.getKind()));
                    return super.visitBinary(part, none);
                }
            }.scan(until, null);
        }
        rule(bounded.contains(true), tree, 9, "an end that can be seen: " + until);
        rule(until == null || !until.toString().contains("||"), tree, 9, "no other way to go on: " + until);
    }

    @Override
    public Void visitForLoop(ForLoopTree tree, Void none) {
        loop(tree, tree.getCondition());
        rule(tree.getUpdate().size() == 1, tree, 9, "a counter");
        loops++;
        Void answer = super.visitForLoop(tree, none);
        loops--;
        return answer;
    }

    @Override
    public Void visitWhileLoop(WhileLoopTree tree, Void none) {
        loop(tree, tree.getCondition());
        rule(tree.getStatement().toString().matches("(?s).*\\b(walls|to)\\+\\+.*"), tree, 9, "a counter: " + tree);
        loops++;
        Void answer = super.visitWhileLoop(tree, none);
        loops--;
        return answer;
    }

    @Override
    public Void visitDoWhileLoop(DoWhileLoopTree tree, Void none) {
        rule(false, tree, 9, "a loop whose end is not looked at here");
        return super.visitDoWhileLoop(tree, none);
    }

    @Override
    public Void visitEnhancedForLoop(EnhancedForLoopTree tree, Void none) {
        rule(trees.getTypeMirror(new TreePath(getCurrentPath(), tree.getExpression())).getKind() == TypeKind.ARRAY,
                tree, 12, "over an array");
        return super.visitEnhancedForLoop(tree, none);
    }

    @Override
    public Void visitBinary(BinaryTree tree, Void none) {
        if (DIVISIONS.contains(tree.getKind())) {
            divisor(tree);
        }
        if (tree.getKind() == Tree.Kind.PLUS) {
            rule(trees.getTypeMirror(getCurrentPath()).getKind().isPrimitive(), tree, 10, "no texts joined by +");
        }
        return super.visitBinary(tree, none);
    }

    /** A constant, or made of one name that the method holds against 0. */
    private void divisor(BinaryTree tree) {
        Set<String> names = new TreeSet<>(List.of(tree.getRightOperand().toString().split("[^A-Za-z_]+")));
        names.remove("");
        boolean constant = tree.getRightOperand().toString().matches("[A-Z0-9_]+") && !tree.getRightOperand().toString().equals("0");
        boolean looked = false;
        for (String name : names) {
            String body = method == null ? "" : method.getBody().toString();
            looked |= names.size() == 1 && (body.contains(name + " > 0") || body.contains(name + " == 0"));
        }
        rule(constant || looked, tree, 7, "a divisor: " + tree);
    }

    @Override
    public Void visitTypeCast(TypeCastTree tree, Void none) {
        Element to = trees.getElement(new TreePath(getCurrentPath(), tree.getType()));
        rule(!(to instanceof VariableElement) && trees.getTypeMirror(getCurrentPath()).getKind().isPrimitive(), tree, 6,
                "a cast that could fail: " + tree);
        return super.visitTypeCast(tree, none);
    }

    @Override
    public Void visitLambdaExpression(LambdaExpressionTree tree, Void none) {
        rule(false, tree, 2, "no lambda");
        return super.visitLambdaExpression(tree, none);
    }

    @Override
    public Void visitMemberReference(MemberReferenceTree tree, Void none) {
        rule(false, tree, 2, "no method reference");
        return super.visitMemberReference(tree, none);
    }

    @Override
    public Void visitThrow(ThrowTree tree, Void none) {
        rule(false, tree, 6, "no throw");
        return super.visitThrow(tree, none);
    }

    @Override
    public Void visitTry(TryTree tree, Void none) {
        rule(false, tree, 6, "no try");
        return super.visitTry(tree, none);
    }

    @Override
    public Void visitSynchronized(SynchronizedTree tree, Void none) {
        rule(false, tree, 6, "no synchronized");
        return super.visitSynchronized(tree, none);
    }

    @Override
    public Void visitAssert(AssertTree tree, Void none) {
        rule(false, tree, 6, "no assert");
        return super.visitAssert(tree, none);
    }
}
