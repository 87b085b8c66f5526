import com.sun.source.tree.BinaryTree;
import com.sun.source.tree.ClassTree;
import com.sun.source.tree.CompilationUnitTree;
import com.sun.source.tree.ConditionalExpressionTree;
import com.sun.source.tree.DoWhileLoopTree;
import com.sun.source.tree.ExpressionTree;
import com.sun.source.tree.ForLoopTree;
import com.sun.source.tree.IfTree;
import com.sun.source.tree.LineMap;
import com.sun.source.tree.MethodInvocationTree;
import com.sun.source.tree.MethodTree;
import com.sun.source.tree.NewArrayTree;
import com.sun.source.tree.NewClassTree;
import com.sun.source.tree.Tree;
import com.sun.source.tree.TypeCastTree;
import com.sun.source.tree.VariableTree;
import com.sun.source.tree.WhileLoopTree;
import com.sun.source.util.JavacTask;
import com.sun.source.util.TreePath;
import com.sun.source.util.TreePathScanner;
import com.sun.source.util.Trees;
import java.io.File;
import java.util.EnumSet;
import java.util.HashMap;
import java.util.HashSet;
import java.util.List;
import java.util.Map;
import java.util.Set;
import java.util.TreeSet;
import javax.lang.model.element.Element;
import javax.lang.model.element.ElementKind;
import javax.lang.model.element.ExecutableElement;
import javax.lang.model.element.Modifier;
import javax.lang.model.element.TypeElement;
import javax.lang.model.type.ArrayType;
import javax.lang.model.type.DeclaredType;
import javax.lang.model.type.TypeKind;
import javax.lang.model.type.TypeMirror;
import javax.tools.JavaCompiler;
import javax.tools.StandardJavaFileManager;
import javax.tools.ToolProvider;

/**
 * The rules of ../shared/LANGUAGE.md, looked at in the tree that the compiler itself makes of the program.
 * It is narrower than the rules where the program uses less than they leave. Run it in the project's folder.
 */
public final class LanguageTest extends TreePathScanner<Void, Void> {
    private static final String PROGRAM = "src/main/java/NightSchool.java";
    private static final int MOST_CLASSES = 12;
    private static final int MOST_FIELDS = 20;
    private static final int MOST_PARAMETERS = 7;
    private static final int MOST_LINES = 60;
    private static final int MOST_DEPTH = 8;
    private static final Set<String> LIBRARY = Set.of("String.length", "String.charAt", "Arrays.fill", "System.arraycopy",
        "Math.min", "Math.max", "Integer.bitCount");
    private static final Set<Tree.Kind> SHUT_OUT = EnumSet.of(Tree.Kind.LAMBDA_EXPRESSION, Tree.Kind.MEMBER_REFERENCE,
        Tree.Kind.THROW, Tree.Kind.TRY, Tree.Kind.CATCH, Tree.Kind.SYNCHRONIZED, Tree.Kind.ASSERT, Tree.Kind.ANNOTATION,
        Tree.Kind.SWITCH_EXPRESSION, Tree.Kind.YIELD, Tree.Kind.BINDING_PATTERN);
    private static final Set<Tree.Kind> LOOPS = EnumSet.of(Tree.Kind.FOR_LOOP, Tree.Kind.WHILE_LOOP,
        Tree.Kind.DO_WHILE_LOOP, Tree.Kind.ENHANCED_FOR_LOOP);
    private static final Set<Tree.Kind> COMPARISONS = EnumSet.of(Tree.Kind.LESS_THAN, Tree.Kind.LESS_THAN_EQUAL,
        Tree.Kind.GREATER_THAN, Tree.Kind.GREATER_THAN_EQUAL);

    private final CompilationUnitTree unit;
    private final Trees trees;
    private final LineMap lines;
    /** Who calls whom; a class stands for its constructors and what makes its fields. */
    private final Map<Element, Set<Element>> calls = new HashMap<>();
    private int classes;
    private int wrong;

    private LanguageTest(CompilationUnitTree unit, Trees trees) {
        this.unit = unit;
        this.trees = trees;
        lines = unit.getLineMap();
    }

    private void must(boolean good, int rule, Tree where, String what) {
        if (!good) {
            wrong++;
            long line = lines.getLineNumber(trees.getSourcePositions().getStartPosition(unit, where));
            System.out.println("rule " + rule + ", line " + line + ": " + what);
        }
    }

    @Override
    public Void scan(Tree tree, Void v) {
        if (tree != null) {
            must(!SHUT_OUT.contains(tree.getKind()), 6, tree, "no " + tree.getKind());
        }
        return super.scan(tree, v);
    }

    @Override
    public Void visitClass(ClassTree tree, Void v) {
        classes++;
        boolean outermost = getCurrentPath().getParentPath().getLeaf() == unit;
        Set<Modifier> modifiers = tree.getModifiers().getFlags();
        if (!outermost) {
            must(getCurrentPath().getParentPath().getLeaf() instanceof ClassTree, 2, tree, "no local or anonymous class");
            must(modifiers.contains(Modifier.STATIC) && !modifiers.contains(Modifier.PUBLIC), 2, tree, "static, not public");
        }
        int fields = 0;
        for (Tree member : tree.getMembers()) {
            must(member.getKind() != Tree.Kind.BLOCK, 5, member, "no initialiser block");
            if (member instanceof VariableTree field && !field.getModifiers().getFlags().contains(Modifier.STATIC)) {
                fields++;
            }
        }
        must(fields <= MOST_FIELDS, 11, tree, "some twenty fields in a class");
        return super.visitClass(tree, v);
    }

    @Override
    public Void visitVariable(VariableTree tree, Void v) {
        Set<Modifier> modifiers = tree.getModifiers().getFlags();
        TypeMirror type = trees.getTypeMirror(new TreePath(getCurrentPath(), tree.getType()));
        must(isAllowed(type), 3, tree, "no " + type);
        if (modifiers.contains(Modifier.STATIC)) {
            must(modifiers.contains(Modifier.FINAL), 5, tree, "a static field is final");
            must(type.getKind() == TypeKind.INT || type.getKind() == TypeKind.LONG, 5, tree, "a constant is an int or a long");
        }
        return super.visitVariable(tree, v);
    }

    private boolean isAllowed(TypeMirror type) {
        switch (type.getKind()) {
            case INT: case LONG: case BYTE: case BOOLEAN:
                return true;
            case ARRAY:
                TypeMirror part = ((ArrayType) type).getComponentType();
                return part.getKind() != TypeKind.ARRAY && !isString(part) && isAllowed(part);
            default:
                return isString(type) || isOwn(type);
        }
    }

    private static boolean isString(TypeMirror type) {
        return type.toString().equals("java.lang.String");
    }

    private static boolean isOwn(TypeMirror type) {
        return type instanceof DeclaredType declared && isOwn(declared.asElement());
    }

    private static boolean isOwn(Element element) {
        Element outermost = element;
        while (outermost.getEnclosingElement().getKind() != ElementKind.PACKAGE) {
            outermost = outermost.getEnclosingElement();
        }
        return outermost.getSimpleName().contentEquals("NightSchool");
    }

    @Override
    public Void visitMethod(MethodTree tree, Void v) {
        must(tree.getParameters().size() <= MOST_PARAMETERS, 11, tree, "seven parameters at most");
        long first = lines.getLineNumber(trees.getSourcePositions().getStartPosition(unit, tree));
        long last = lines.getLineNumber(trees.getSourcePositions().getEndPosition(unit, tree));
        must(last - first < MOST_LINES, 11, tree, "methods stay short");
        return super.visitMethod(tree, v);
    }

    @Override
    public Void visitMethodInvocation(MethodInvocationTree tree, Void v) {
        Element called = trees.getElement(getCurrentPath());
        if (called.getKind() == ElementKind.METHOD) {
            if (isOwn(called)) {
                noteCall(called);
            } else {
                String name = called.getEnclosingElement().getSimpleName() + "." + called.getSimpleName();
                must(LIBRARY.contains(name), 4, tree, "no " + name);
            }
        }
        return super.visitMethodInvocation(tree, v);
    }

    @Override
    public Void visitNewClass(NewClassTree tree, Void v) {
        Element made = trees.getElement(getCurrentPath()).getEnclosingElement();
        must(isOwn(made), 4, tree, "no new " + made);
        must(!isInLoop(), 12, tree, "no object is made in a loop");
        noteCall(made);
        return super.visitNewClass(tree, v);
    }

    @Override
    public Void visitNewArray(NewArrayTree tree, Void v) {
        must(!isInLoop(), 12, tree, "no array is made in a loop");
        must(caller() instanceof TypeElement, 12, tree, "rows are made with their object");
        return super.visitNewArray(tree, v);
    }

    private void noteCall(Element called) {
        calls.computeIfAbsent(caller(), k -> new HashSet<>()).add(called);
    }

    /** The method in which the scan is now, or the class, if it is in a constructor or a field. */
    private Element caller() {
        for (TreePath path = getCurrentPath(); path != null; path = path.getParentPath()) {
            Element here = trees.getElement(path);
            boolean isMethod = path.getLeaf() instanceof MethodTree && here.getKind() == ElementKind.METHOD;
            if (isMethod || path.getLeaf() instanceof ClassTree) {
                return here;
            }
        }
        throw new IllegalStateException("a call outside of all classes");
    }

    private boolean isInLoop() {
        for (TreePath path = getCurrentPath(); path != null; path = path.getParentPath()) {
            if (LOOPS.contains(path.getLeaf().getKind())) {
                return true;
            }
        }
        return false;
    }

    @Override
    public Void visitTypeCast(TypeCastTree tree, Void v) {
        TypeMirror type = trees.getTypeMirror(new TreePath(getCurrentPath(), tree.getType()));
        must(type.getKind().isPrimitive(), 6, tree, "casts among numbers alone");
        return super.visitTypeCast(tree, v);
    }

    @Override
    public Void visitBinary(BinaryTree tree, Void v) {
        boolean texts = isString(typeOf(tree.getLeftOperand())) || isString(typeOf(tree.getRightOperand()));
        must(!texts, 10, tree, "texts are neither joined by + nor compared by ==");
        if (tree.getKind() == Tree.Kind.DIVIDE || tree.getKind() == Tree.Kind.REMAINDER) {
            must(isLookedAt(tree.getRightOperand()), 7, tree, "a divisor is looked at before it divides");
        }
        return super.visitBinary(tree, v);
    }

    private TypeMirror typeOf(ExpressionTree tree) {
        return trees.getTypeMirror(new TreePath(getCurrentPath(), tree));
    }

    private boolean isLookedAt(ExpressionTree divisor) {
        for (TreePath path = getCurrentPath(); path != null; path = path.getParentPath()) {
            ExpressionTree condition = null;
            if (path.getLeaf() instanceof ConditionalExpressionTree choice) {
                condition = choice.getCondition();
            } else if (path.getLeaf() instanceof IfTree choice) {
                condition = choice.getCondition();
            }
            if (condition != null && condition.toString().contains(divisor + " == 0")) {
                return true;
            }
        }
        return false;
    }

    @Override
    public Void visitForLoop(ForLoopTree tree, Void v) {
        mustEnd(tree.getCondition(), tree);
        return super.visitForLoop(tree, v);
    }

    @Override
    public Void visitWhileLoop(WhileLoopTree tree, Void v) {
        mustEnd(tree.getCondition(), tree);
        return super.visitWhileLoop(tree, v);
    }

    @Override
    public Void visitDoWhileLoop(DoWhileLoopTree tree, Void v) {
        mustEnd(tree.getCondition(), tree);
        return super.visitDoWhileLoop(tree, v);
    }

    private void mustEnd(ExpressionTree condition, Tree loop) {
        must(condition != null && hasBound(condition), 9, loop, "a loop's counter stands against a bound");
    }

    /** A bound that is joined by || to something else is none. */
    private static boolean hasBound(Tree condition) {
        Tree bare = condition;
        while (bare instanceof com.sun.source.tree.ParenthesizedTree around) {
            bare = around.getExpression();
        }
        if (bare.getKind() == Tree.Kind.CONDITIONAL_AND) {
            BinaryTree both = (BinaryTree) bare;
            return hasBound(both.getLeftOperand()) || hasBound(both.getRightOperand());
        }
        return COMPARISONS.contains(bare.getKind());
    }

    /** How deep the calls of a method go, itself counted; the way to it holds those that stand open. */
    private int depthOf(Element method, Set<Element> way) {
        if (!way.add(method)) {
            wrong++;
            System.out.println("rule 8: " + method + " comes to call itself");
            return 0;
        }
        int deepest = 0;
        for (Element called : calls.getOrDefault(method, Set.of())) {
            deepest = Math.max(deepest, depthOf(called, way));
        }
        way.remove(method);
        return deepest + 1;
    }

    private void lookAtCalls() {
        Set<String> never = new TreeSet<>();
        for (Element caller : calls.keySet()) {
            int depth = depthOf(caller, new HashSet<>());
            if (depth > MOST_DEPTH) {
                never.add(caller + " goes " + depth + " calls deep");
            }
        }
        for (String what : never) {
            wrong++;
            System.out.println("rule 11: " + what);
        }
    }

    private void lookAtAll() {
        must(unit.getPackageName() == null, 1, unit, "no package");
        must(unit.getTypeDecls().size() == 1, 1, unit, "one class in the file");
        for (Tree line : unit.getImports()) {
            must(line.toString().trim().equals("import java.util.Arrays;"), 4, line, "no " + line);
        }
        scan(unit, null);
        must(classes <= MOST_CLASSES, 11, unit, "some twelve classes");
        lookAtCalls();
    }

    public static void main(String[] args) throws Exception {
        File program = new File(args.length > 0 ? args[0] : PROGRAM);
        JavaCompiler compiler = ToolProvider.getSystemJavaCompiler();
        try (StandardJavaFileManager files = compiler.getStandardFileManager(null, null, null)) {
            JavacTask task = (JavacTask) compiler.getTask(null, files, null, List.of("-proc:none"), null,
                files.getJavaFileObjects(program));
            CompilationUnitTree unit = task.parse().iterator().next();
            task.analyze();
            LanguageTest test = new LanguageTest(unit, Trees.instance(task));
            test.lookAtAll();
            System.out.println(test.classes + " classes, " + test.calls.size() + " that call, "
                + (test.wrong == 0 ? "all within the rules" : test.wrong + " things outside the rules"));
            if (test.wrong != 0) {
                System.exit(1);
            }
        }
    }
}
