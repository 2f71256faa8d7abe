import com.sun.source.tree.AssertTree;
import com.sun.source.tree.BinaryTree;
import com.sun.source.tree.BlockTree;
import com.sun.source.tree.ClassTree;
import com.sun.source.tree.CompilationUnitTree;
import com.sun.source.tree.CompoundAssignmentTree;
import com.sun.source.tree.DoWhileLoopTree;
import com.sun.source.tree.ExpressionTree;
import com.sun.source.tree.ForLoopTree;
import com.sun.source.tree.IdentifierTree;
import com.sun.source.tree.LambdaExpressionTree;
import com.sun.source.tree.MemberReferenceTree;
import com.sun.source.tree.MemberSelectTree;
import com.sun.source.tree.MethodInvocationTree;
import com.sun.source.tree.MethodTree;
import com.sun.source.tree.NewClassTree;
import com.sun.source.tree.SynchronizedTree;
import com.sun.source.tree.ThrowTree;
import com.sun.source.tree.Tree;
import com.sun.source.tree.TryTree;
import com.sun.source.tree.VariableTree;
import com.sun.source.tree.WhileLoopTree;
import com.sun.source.util.JavacTask;
import com.sun.source.util.TreePath;
import com.sun.source.util.TreePathScanner;
import com.sun.source.util.Trees;
import java.io.IOException;
import java.net.URI;
import java.util.ArrayList;
import java.util.LinkedHashMap;
import java.util.LinkedHashSet;
import java.util.List;
import java.util.Map;
import java.util.Set;
import javax.lang.model.element.Element;
import javax.lang.model.element.ElementKind;
import javax.lang.model.element.ExecutableElement;
import javax.lang.model.element.Modifier;
import javax.lang.model.element.NestingKind;
import javax.lang.model.element.TypeElement;
import javax.lang.model.element.VariableElement;
import javax.lang.model.type.ArrayType;
import javax.lang.model.type.DeclaredType;
import javax.lang.model.type.TypeKind;
import javax.lang.model.type.TypeMirror;
import javax.lang.model.util.ElementFilter;
import javax.tools.JavaFileObject;
import javax.tools.SimpleJavaFileObject;
import javax.tools.ToolProvider;

/**
 * Which rules of LANGUAGE.md a source breaks, as far as the source alone can tell. It is read with the
 * compiler's own eyes, so that a call is known by the class that has it and not by its name.
 */
final class Rules extends TreePathScanner<Void, Void> {
    private static final String NUMBERS = "int|long|short|byte|char|boolean|double|float";
    private static final Map<String, String> LIBRARY = Map.of(
        "String", "length|charAt|isEmpty|equals|indexOf|substring|toCharArray|<init>",
        "StringBuilder", "append|charAt|setCharAt|setLength|deleteCharAt|reverse|length|toString|<init>",
        "ArrayList", "add|get|set|remove|size|isEmpty|clear|<init>",
        "List", "add|get|set|remove|size|isEmpty|clear|of",
        "Integer", ".*(?<!Exact)",
        "Long", ".*(?<!Exact)",
        "Math", "(?!random).*(?<!Exact)",
        "System", "arraycopy",
        "Arrays", "copyOf|copyOfRange|fill",
        "Object", "<init>|clone");
    private static final int MOST_CLASSES = 12;
    private static final int MOST_FIELDS = 20;
    private static final int MOST_PARAMETERS = 7;
    private static final int MOST_LINES = 60;
    private static final int MOST_DEEP = 8;

    private final List<String> broken = new ArrayList<>();
    private final Map<Element, Set<Element>> calls = new LinkedHashMap<>();
    private final CompilationUnitTree unit;
    private final Trees trees;
    private int classes;

    private Rules(CompilationUnitTree unit, Trees trees) {
        this.unit = unit;
        this.trees = trees;
    }

    /** The source must compile. */
    static List<String> brokenBy(String source) throws IOException {
        JavaFileObject file = new SimpleJavaFileObject(URI.create("text:///OrderKeeper.java"), JavaFileObject.Kind.SOURCE) {
            @Override
            public CharSequence getCharContent(boolean ignoreEncodingErrors) {
                return source;
            }
        };
        JavacTask task = (JavacTask) ToolProvider.getSystemJavaCompiler()
            .getTask(null, null, null, List.of("-proc:none"), null, List.of(file));
        CompilationUnitTree unit = task.parse().iterator().next();
        task.analyze();
        Rules rules = new Rules(unit, Trees.instance(task));
        rules.scan(unit, null);
        rules.countClasses();
        rules.measureCalls();
        return rules.broken;
    }

    private void need(boolean kept, int rule, String what) {
        if (!kept) {
            broken.add("rule " + rule + ": " + what);
        }
    }

    private String where(Tree tree) {
        return " in line " + line(trees.getSourcePositions().getStartPosition(unit, tree));
    }

    private long line(long position) {
        return unit.getLineMap().getLineNumber(position);
    }

    private Element here() {
        return trees.getElement(getCurrentPath());
    }

    private TypeMirror typeOf(ExpressionTree tree) {
        return trees.getTypeMirror(new TreePath(getCurrentPath(), tree));
    }

    private boolean isOwn(Element element) {
        TreePath path = trees.getPath(element);
        return path != null && path.getCompilationUnit() == unit;
    }

    @Override
    public Void visitCompilationUnit(CompilationUnitTree tree, Void p) {
        need(tree.getPackageName() == null, 1, "a package line");
        tree.getImports().forEach(each -> need(
            each.getQualifiedIdentifier().toString().matches("java\\.util\\.(Arrays|ArrayList|List|Iterator)"), 4, each.toString().trim()));
        // Imports are names alone; the calls are looked at where they stand.
        return scan(tree.getTypeDecls(), p);
    }

    @Override
    public Void visitClass(ClassTree tree, Void p) {
        classes++;
        TypeElement type = (TypeElement) here();
        Set<Modifier> is = type.getModifiers();
        if (type.getNestingKind() == NestingKind.MEMBER) {
            need(is.contains(Modifier.STATIC), 2, "a class that is not static" + where(tree));
            need(!is.contains(Modifier.PUBLIC) && !is.contains(Modifier.PROTECTED), 1, "a class that is seen" + where(tree));
        } else {
            need(type.getNestingKind() == NestingKind.TOP_LEVEL, 2, "a local or anonymous class" + where(tree));
        }
        for (Tree member : tree.getMembers()) {
            need(!(member instanceof BlockTree) || !((BlockTree) member).isStatic(), 5, "a static block" + where(member));
        }
        long fields = ElementFilter.fieldsIn(type.getEnclosedElements()).stream()
            .filter(field -> !field.getModifiers().contains(Modifier.STATIC)).count();
        need(fields <= MOST_FIELDS, 11, fields + " fields" + where(tree));
        return super.visitClass(tree, p);
    }

    private void countClasses() {
        need(classes <= MOST_CLASSES, 11, classes + " classes");
    }

    @Override
    public Void visitMethod(MethodTree tree, Void p) {
        long from = trees.getSourcePositions().getStartPosition(unit, tree);
        long to = trees.getSourcePositions().getEndPosition(unit, tree);
        // The compiler's own constructor stands nowhere in the source.
        need(to < 0 || line(to) - line(from) < MOST_LINES, 11, "a long method" + where(tree));
        need(tree.getParameters().size() <= MOST_PARAMETERS, 11, "many parameters" + where(tree));
        need(tree.getThrows().isEmpty(), 6, "a method that throws" + where(tree));
        need(!tree.getModifiers().getFlags().contains(Modifier.SYNCHRONIZED), 6, "synchronized" + where(tree));
        need(!tree.getName().toString().matches("equals|hashCode|toString"), 6, tree.getName() + where(tree));
        needType(((ExecutableElement) here()).getReturnType(), tree);
        return super.visitMethod(tree, p);
    }

    @Override
    public Void visitVariable(VariableTree tree, Void p) {
        VariableElement variable = (VariableElement) here();
        needType(variable.asType(), tree);
        Set<Modifier> is = variable.getModifiers();
        if (variable.getKind() == ElementKind.FIELD && is.contains(Modifier.STATIC)) {
            need(is.contains(Modifier.FINAL), 5, "static state" + where(tree));
            boolean constant = variable.getConstantValue() != null
                && simple(variable.asType()).matches("int|long|boolean|char|String");
            boolean writtenOut = simple(variable.asType()).matches("(int|long|char|byte)\\[]")
                && tree.getInitializer() != null && tree.getInitializer().getKind() == Tree.Kind.NEW_ARRAY;
            need(constant || writtenOut, 5, "a static field that is no constant" + where(tree));
        }
        return super.visitVariable(tree, p);
    }

    private static String simple(TypeMirror type) {
        return type.toString().replaceAll("<.*>", "").replaceAll("\\b[a-z]+\\.", "");
    }

    private void needType(TypeMirror type, Tree tree) {
        TypeMirror inner = type;
        int dimensions = 0;
        while (inner.getKind() == TypeKind.ARRAY) {
            inner = ((ArrayType) inner).getComponentType();
            dimensions++;
        }
        String name = simple(inner);
        boolean own = inner.getKind() == TypeKind.DECLARED && isOwn(((DeclaredType) inner).asElement());
        boolean number = inner.getKind().isPrimitive() && name.matches(NUMBERS);
        boolean text = name.matches("String|StringBuilder|ArrayList|List|Integer|Iterator|Iterable|Comparable");
        boolean fits = dimensions == 0 ? number || own || text || inner.getKind() == TypeKind.VOID || inner.getKind() == TypeKind.TYPEVAR
            : dimensions == 1 ? number || own
            : dimensions == 2 && number;
        need(fits, 3, type + where(tree));
    }

    @Override
    public Void visitMethodInvocation(MethodInvocationTree tree, Void p) {
        call(here(), tree);
        return super.visitMethodInvocation(tree, p);
    }

    @Override
    public Void visitNewClass(NewClassTree tree, Void p) {
        call(here(), tree);
        return super.visitNewClass(tree, p);
    }

    private void call(Element called, Tree tree) {
        TypeElement owner = (TypeElement) called.getEnclosingElement();
        if (isOwn(owner)) {
            calls.computeIfAbsent(caller(), key -> new LinkedHashSet<>()).add(called);
            return;
        }
        String type = owner.getSimpleName().toString();
        boolean known = owner.toString().matches("java\\.(lang|util)\\.\\w+|Array");
        String names = type.equals("Array") ? "clone" : LIBRARY.getOrDefault(type, "");
        need(known && called.getSimpleName().toString().matches(names), 4, type + "." + called.getSimpleName() + where(tree));
    }

    /** What initialises a field is run by the constructor. */
    private Element caller() {
        for (TreePath path = getCurrentPath(); path != null; path = path.getParentPath()) {
            Element element = trees.getElement(path);
            if (path.getLeaf() instanceof MethodTree) {
                return element;
            }
            if (path.getLeaf() instanceof ClassTree) {
                return ElementFilter.constructorsIn(element.getEnclosedElements()).get(0);
            }
        }
        return null;
    }

    @Override
    public Void visitMemberSelect(MemberSelectTree tree, Void p) {
        needOwnField(here(), tree);
        return super.visitMemberSelect(tree, p);
    }

    @Override
    public Void visitIdentifier(IdentifierTree tree, Void p) {
        needOwnField(here(), tree);
        return super.visitIdentifier(tree, p);
    }

    private void needOwnField(Element element, Tree tree) {
        if (element != null && element.getKind() == ElementKind.FIELD) {
            // this and an array's length are fields to the compiler.
            boolean free = element.getSimpleName().toString().matches("this|super|length|class");
            boolean constant = ((VariableElement) element).getConstantValue() != null;
            need(free || constant || isOwn(element.getEnclosingElement()), 4, tree + where(tree));
        }
    }

    @Override
    public Void visitLambdaExpression(LambdaExpressionTree tree, Void p) {
        need(false, 2, "a lambda" + where(tree));
        return super.visitLambdaExpression(tree, p);
    }

    @Override
    public Void visitMemberReference(MemberReferenceTree tree, Void p) {
        need(false, 2, "a method reference" + where(tree));
        return super.visitMemberReference(tree, p);
    }

    @Override
    public Void visitThrow(ThrowTree tree, Void p) {
        need(false, 6, "throw" + where(tree));
        return super.visitThrow(tree, p);
    }

    @Override
    public Void visitTry(TryTree tree, Void p) {
        need(false, 6, "try" + where(tree));
        return super.visitTry(tree, p);
    }

    @Override
    public Void visitSynchronized(SynchronizedTree tree, Void p) {
        need(false, 6, "synchronized" + where(tree));
        return super.visitSynchronized(tree, p);
    }

    @Override
    public Void visitAssert(AssertTree tree, Void p) {
        need(false, 6, "assert" + where(tree));
        return super.visitAssert(tree, p);
    }

    @Override
    public Void visitBinary(BinaryTree tree, Void p) {
        String left = simple(typeOf(tree.getLeftOperand()));
        String right = simple(typeOf(tree.getRightOperand()));
        boolean compares = tree.getKind() == Tree.Kind.EQUAL_TO || tree.getKind() == Tree.Kind.NOT_EQUAL_TO;
        need(!compares || !left.equals(right) || !left.matches("String|Integer"), 6, tree + where(tree));
        need(tree.getKind() != Tree.Kind.PLUS || !left.equals("String") && !right.equals("String"), 10, tree + where(tree));
        return super.visitBinary(tree, p);
    }

    @Override
    public Void visitCompoundAssignment(CompoundAssignmentTree tree, Void p) {
        need(!simple(typeOf(tree.getVariable())).equals("String"), 10, tree + where(tree));
        return super.visitCompoundAssignment(tree, p);
    }

    @Override
    public Void visitForLoop(ForLoopTree tree, Void p) {
        need(tree.getCondition() != null && !tree.getUpdate().isEmpty(), 9, "a loop without an end" + where(tree));
        return super.visitForLoop(tree, p);
    }

    @Override
    public Void visitWhileLoop(WhileLoopTree tree, Void p) {
        needEnd(tree.getCondition(), tree);
        return super.visitWhileLoop(tree, p);
    }

    @Override
    public Void visitDoWhileLoop(DoWhileLoopTree tree, Void p) {
        needEnd(tree.getCondition(), tree);
        return super.visitDoWhileLoop(tree, p);
    }

    private void needEnd(ExpressionTree condition, Tree tree) {
        need(!condition.toString().equals("(true)"), 9, "a loop without an end" + where(tree));
    }

    private void measureCalls() {
        for (Element method : calls.keySet()) {
            int deep = deepest(method, new ArrayList<>());
            need(deep <= MOST_DEEP, 11, method + " goes " + deep + " calls deep");
        }
    }

    /** The program has no recursion, so a ring of calls is told as one that needs a guard. */
    private int deepest(Element method, List<Element> open) {
        if (open.contains(method)) {
            String told = "rule 8: " + method + " calls itself";
            if (!broken.contains(told)) {
                broken.add(told);
            }
            return 0;
        }
        open.add(method);
        int deepest = 0;
        for (Element called : calls.getOrDefault(method, Set.of())) {
            deepest = Math.max(deepest, deepest(called, open));
        }
        open.remove(method);
        return deepest + 1;
    }
}
