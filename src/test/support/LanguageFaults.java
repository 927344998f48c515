import com.sun.source.tree.*;
import com.sun.source.util.JavacTask;
import com.sun.source.util.TreePath;
import com.sun.source.util.TreePathScanner;
import com.sun.source.util.Trees;
import java.net.URI;
import java.util.ArrayList;
import java.util.HashMap;
import java.util.LinkedHashMap;
import java.util.LinkedHashSet;
import java.util.List;
import java.util.Map;
import java.util.Set;
import javax.lang.model.element.Element;
import javax.lang.model.element.ElementKind;
import javax.lang.model.element.ExecutableElement;
import javax.lang.model.element.Modifier;
import javax.lang.model.element.TypeElement;
import javax.lang.model.type.ArrayType;
import javax.lang.model.type.DeclaredType;
import javax.lang.model.type.TypeKind;
import javax.lang.model.type.TypeMirror;
import javax.tools.JavaFileObject;
import javax.tools.SimpleJavaFileObject;
import javax.tools.ToolProvider;

/**
 * Where a source leaves LANGUAGE.md, as the compiler's own tree shows it; each fault begins with its
 * rule's number. What a tree can't show (an index looked at before it is used) is not asked here.
 */
final class LanguageFaults extends TreePathScanner<Void, Void> {
    private static final int MOST_DEEP = 8, MOST_PARAMETERS = 7, MOST_LINES = 60, MOST_CLASSES = 12, MOST_FIELDS = 20;
    private static final Set<String> NUMBERS = Set.of("INT", "LONG", "SHORT", "BYTE", "CHAR", "DOUBLE", "FLOAT");
    private static final Set<String> LIST = Set.of("add", "get", "set", "remove", "size", "isEmpty", "clear", "of");
    private static final Set<String> COUNTING = Set.of("java.lang.Integer", "java.lang.Long", "java.lang.Math");
    private static final Map<String, Set<String>> LIBRARY = Map.of(
        "java.lang.String", Set.of("length", "charAt", "isEmpty", "equals", "indexOf", "substring", "toCharArray"),
        "java.lang.StringBuilder", Set.of("append", "charAt", "setCharAt", "setLength", "deleteCharAt", "reverse",
            "length", "toString"),
        "java.util.ArrayList", LIST, "java.util.List", LIST,
        "java.lang.System", Set.of("arraycopy"), "java.util.Arrays", Set.of("copyOf", "copyOfRange", "fill"));
    private static final Set<String> TYPES = Set.of("java.lang.String", "java.lang.StringBuilder", "java.lang.Integer",
        "java.util.ArrayList", "java.util.List", "java.util.Iterator", "java.lang.Iterable", "java.lang.Comparable");

    private final List<String> faults = new ArrayList<>();
    private final Map<Element, Set<Element>> calls = new LinkedHashMap<>();
    private final Map<Element, Integer> depths = new HashMap<>();
    private final CompilationUnitTree unit;
    private final Trees trees;
    private int classes = 0;

    private LanguageFaults(CompilationUnitTree unit, Trees trees) {
        this.unit = unit;
        this.trees = trees;
    }

    static List<String> of(String name, String source) throws Exception {
        JavaFileObject file = new SimpleJavaFileObject(URI.create("string:///" + name + ".java"),
            JavaFileObject.Kind.SOURCE) {
            @Override
            public CharSequence getCharContent(boolean lenient) {
                return source;
            }
        };
        JavacTask task = (JavacTask) ToolProvider.getSystemJavaCompiler().getTask(null, null, null,
            List.of("-proc:none", "-Xlint:none"), null, List.of(file));
        CompilationUnitTree unit = task.parse().iterator().next();
        task.analyze();
        LanguageFaults reader = new LanguageFaults(unit, Trees.instance(task));
        reader.scan(unit, null);
        reader.askDepth();
        return reader.faults;
    }

    private void fault(String rule, Tree tree) {
        String shown = tree.toString().strip().replaceAll("\\s+", " ");
        faults.add("rule " + rule + ": " + shown.substring(0, Math.min(shown.length(), 90)));
    }

    private void ask(boolean good, String rule, Tree tree) {
        if (!good) {
            fault(rule, tree);
        }
    }

    private Element elementOf(Tree tree) {
        return trees.getElement(new TreePath(getCurrentPath(), tree));
    }

    private TypeMirror typeOf(Tree tree) {
        return trees.getTypeMirror(new TreePath(getCurrentPath(), tree));
    }

    private boolean isOwn(Element element) {
        Element out = element;
        while (out.getEnclosingElement() != null && out.getEnclosingElement().getKind() != ElementKind.PACKAGE) {
            out = out.getEnclosingElement();
        }
        TreePath path = trees.getPath(out);
        return path != null && path.getCompilationUnit() == unit;
    }

    private static String nameOf(TypeMirror type) {
        return type instanceof DeclaredType d ? ((TypeElement) d.asElement()).getQualifiedName().toString() : "";
    }

    // ---- rule 3

    private boolean isAllowed(TypeMirror type) {
        if (type == null || type.getKind().isPrimitive() || type.getKind() == TypeKind.VOID
            || type.getKind() == TypeKind.TYPEVAR || type.getKind() == TypeKind.NONE) {
            return true;
        }
        if (type instanceof ArrayType row) {
            TypeMirror part = row.getComponentType();
            if (part instanceof ArrayType inner) {
                return NUMBERS.contains(inner.getComponentType().getKind().name());
            }
            return part.getKind().isPrimitive() || part.getKind() == TypeKind.TYPEVAR || isOwnClass(part);
        }
        return isOwnClass(type) || TYPES.contains(nameOf(type));
    }

    private boolean isOwnClass(TypeMirror type) {
        return type instanceof DeclaredType d && isOwn(d.asElement());
    }

    @Override
    public Void visitVariable(VariableTree tree, Void none) {
        Element variable = trees.getElement(getCurrentPath());
        ask(isAllowed(variable.asType()), "3", tree);
        if (variable.getKind() == ElementKind.FIELD && variable.getModifiers().contains(Modifier.STATIC)) {
            askStatic(tree, variable);
        }
        return super.visitVariable(tree, none);
    }

    @Override
    public Void visitNewArray(NewArrayTree tree, Void none) {
        ask(isAllowed(trees.getTypeMirror(getCurrentPath())), "3", tree);
        return super.visitNewArray(tree, none);
    }

    // ---- rule 5

    private void askStatic(VariableTree tree, Element field) {
        ask(field.getModifiers().contains(Modifier.FINAL), "5", tree);
        TypeMirror type = field.asType();
        boolean plain = Set.of("INT", "LONG", "BOOLEAN", "CHAR").contains(type.getKind().name())
            || nameOf(type).equals("java.lang.String");
        boolean row = type instanceof ArrayType a
            && Set.of("INT", "LONG", "CHAR", "BYTE").contains(a.getComponentType().getKind().name())
            && tree.getInitializer() instanceof NewArrayTree made && made.getInitializers() != null;
        // Rule 12 lets the constants of an enum be kept once in an array.
        boolean values = type instanceof ArrayType a && a.getComponentType() instanceof DeclaredType d
            && d.asElement().getKind() == ElementKind.ENUM && isOwn(d.asElement());
        ask(plain || row || values, "5", tree);
    }

    private void askUnchanged(ExpressionTree target) {
        if (target instanceof ArrayAccessTree cell) {
            Element row = trees.getElement(new TreePath(new TreePath(getCurrentPath(), cell), cell.getExpression()));
            ask(row == null || !row.getModifiers().contains(Modifier.STATIC), "5", target);
        }
    }

    @Override
    public Void visitAssignment(AssignmentTree tree, Void none) {
        askUnchanged(tree.getVariable());
        return super.visitAssignment(tree, none);
    }

    @Override
    public Void visitUnary(UnaryTree tree, Void none) {
        if (Set.of(Tree.Kind.PREFIX_INCREMENT, Tree.Kind.PREFIX_DECREMENT, Tree.Kind.POSTFIX_INCREMENT,
            Tree.Kind.POSTFIX_DECREMENT).contains(tree.getKind())) {
            askUnchanged(tree.getExpression());
        }
        return super.visitUnary(tree, none);
    }

    @Override
    public Void visitBlock(BlockTree tree, Void none) {
        ask(!tree.isStatic(), "5", tree);
        return super.visitBlock(tree, none);
    }

    // ---- rules 1, 2 and 11: classes and methods

    @Override
    public Void visitCompilationUnit(CompilationUnitTree tree, Void none) {
        if (tree.getPackage() != null || tree.getTypeDecls().size() != 1) {
            faults.add("rule 1: one file without a package, with one class");
        }
        return super.visitCompilationUnit(tree, none);
    }

    @Override
    public Void visitClass(ClassTree tree, Void none) {
        Element c = trees.getElement(getCurrentPath());
        Tree around = getCurrentPath().getParentPath().getLeaf();
        classes++;
        ask(classes <= 1 + MOST_CLASSES, "11", tree);
        ask(around instanceof ClassTree || around instanceof CompilationUnitTree, "2", tree);
        if (around instanceof ClassTree) {
            ask(c.getModifiers().contains(Modifier.STATIC), "2", tree);
            ask(!c.getModifiers().contains(Modifier.PUBLIC) && !c.getModifiers().contains(Modifier.PROTECTED), "1", tree);
        }
        int fields = 0;
        for (Element member : c.getEnclosedElements()) {
            boolean isField = member.getKind() == ElementKind.FIELD;
            fields += isField && !member.getModifiers().contains(Modifier.STATIC) ? 1 : 0;
        }
        ask(fields <= MOST_FIELDS, "11", tree);
        return super.visitClass(tree, none);
    }

    @Override
    public Void visitMethod(MethodTree tree, Void none) {
        ExecutableElement method = (ExecutableElement) trees.getElement(getCurrentPath());
        calls.computeIfAbsent(method, m -> new LinkedHashSet<>());
        ask(tree.getParameters().size() <= MOST_PARAMETERS, "11", tree);
        ask(isAllowed(method.getReturnType()), "3", tree);
        ask(!Set.of("equals", "hashCode", "toString").contains(tree.getName().toString()), "6", tree);
        LineMap lines = unit.getLineMap();
        long from = trees.getSourcePositions().getStartPosition(unit, tree);
        long to = trees.getSourcePositions().getEndPosition(unit, tree);
        ask(from < 0 || lines.getLineNumber(to) - lines.getLineNumber(from) < MOST_LINES, "11", tree);
        return super.visitMethod(tree, none);
    }

    @Override
    public Void visitLambdaExpression(LambdaExpressionTree tree, Void none) {
        fault("2", tree);
        return super.visitLambdaExpression(tree, none);
    }

    @Override
    public Void visitMemberReference(MemberReferenceTree tree, Void none) {
        fault("2", tree);
        return super.visitMemberReference(tree, none);
    }

    // ---- rules 4, 8, 11, 12: what is called

    @Override
    public Void visitMethodInvocation(MethodInvocationTree tree, Void none) {
        ExecutableElement called = (ExecutableElement) elementOf(tree.getMethodSelect());
        TypeElement owner = (TypeElement) called.getEnclosingElement();
        if (isOwn(owner)) {
            noteCall(called);
            askInConstructor(tree, called, owner);
        } else if (called.getKind() != ElementKind.CONSTRUCTOR) {
            String name = called.getSimpleName().toString();
            boolean cloned = name.equals("clone") && tree.getMethodSelect() instanceof MemberSelectTree select
                && trees.getTypeMirror(new TreePath(new TreePath(getCurrentPath(), select), select.getExpression()))
                    instanceof ArrayType;
            ask(cloned || isListed(called, owner.getQualifiedName().toString(), name), "4", tree);
        }
        return super.visitMethodInvocation(tree, none);
    }

    private static boolean isListed(ExecutableElement called, String owner, String name) {
        if (COUNTING.contains(owner)) {
            boolean whole = isWhole(called.getReturnType());
            for (Element parameter : called.getParameters()) {
                whole &= isWhole(parameter.asType());
            }
            return whole && called.getModifiers().contains(Modifier.STATIC) && !name.endsWith("Exact");
        }
        if (name.equals("append") || name.equals("indexOf")) {
            String takes = called.getParameters().toString();
            String first = called.getParameters().get(0).asType().toString();
            String listed = name.equals("append") ? "char int java.lang.String" : "int";
            return !takes.contains(",") && List.of(listed.split(" ")).contains(first)
                && LIBRARY.getOrDefault(owner, Set.of()).contains(name);
        }
        return LIBRARY.getOrDefault(owner, Set.of()).contains(name);
    }

    private static boolean isWhole(TypeMirror type) {
        return type.getKind() == TypeKind.INT || type.getKind() == TypeKind.LONG;
    }

    private void askInConstructor(Tree tree, ExecutableElement called, TypeElement owner) {
        Element caller = caller();
        Set<Modifier> has = called.getModifiers();
        boolean fixed = has.contains(Modifier.PRIVATE) || has.contains(Modifier.STATIC) || has.contains(Modifier.FINAL)
            || owner.getModifiers().contains(Modifier.FINAL) || called.getKind() == ElementKind.CONSTRUCTOR;
        ask(fixed || caller == null || caller.getKind() != ElementKind.CONSTRUCTOR, "12", tree);
    }

    @Override
    public Void visitNewClass(NewClassTree tree, Void none) {
        ask(tree.getClassBody() == null, "2", tree);
        Element made = trees.getElement(getCurrentPath());
        if (made != null && isOwn(made)) {
            noteCall(made);
        } else {
            String name = nameOf(trees.getTypeMirror(getCurrentPath()));
            ask(Set.of("java.lang.String", "java.lang.StringBuilder", "java.util.ArrayList").contains(name), "4", tree);
        }
        return super.visitNewClass(tree, none);
    }

    @Override
    public Void visitMemberSelect(MemberSelectTree tree, Void none) {
        Element member = trees.getElement(getCurrentPath());
        if (member != null && member.getKind() == ElementKind.FIELD && !isOwn(member)) {
            ask(tree.getIdentifier().contentEquals("length") || tree.getIdentifier().contentEquals("class"), "4", tree);
            ask(!tree.getIdentifier().contentEquals("class"), "3", tree);
        }
        return super.visitMemberSelect(tree, none);
    }

    private Element caller() {
        for (TreePath path = getCurrentPath(); path != null; path = path.getParentPath()) {
            if (path.getLeaf() instanceof MethodTree) {
                return trees.getElement(path);
            }
        }
        return null;
    }

    private void noteCall(Element called) {
        Element caller = caller();
        if (caller != null) {
            calls.computeIfAbsent(caller, c -> new LinkedHashSet<>()).add(called);
        }
    }

    /** "calls that are no recursion go at most eight deep": a call back into what is open is recursion. */
    private void askDepth() {
        for (Element method : calls.keySet()) {
            int deep = depth(method, new ArrayList<>());
            if (deep > MOST_DEEP) {
                faults.add("rule 11: " + method + " goes " + deep + " deep");
            }
        }
    }

    private int depth(Element method, List<Element> open) {
        if (open.contains(method)) {
            return 0;
        }
        Integer known = depths.get(method);
        if (known != null) {
            return known;
        }
        open.add(method);
        int deepest = 0;
        for (Element called : calls.getOrDefault(method, Set.of())) {
            deepest = Math.max(deepest, depth(called, open));
        }
        open.remove(method);
        depths.put(method, deepest + 1);
        return deepest + 1;
    }

    // ---- rules 4, 6, 9, 10: statements and expressions

    @Override
    public Void visitThrow(ThrowTree tree, Void none) {
        fault("6", tree);
        return super.visitThrow(tree, none);
    }

    @Override
    public Void visitTry(TryTree tree, Void none) {
        fault("6", tree);
        return super.visitTry(tree, none);
    }

    @Override
    public Void visitSynchronized(SynchronizedTree tree, Void none) {
        fault("6", tree);
        return super.visitSynchronized(tree, none);
    }

    @Override
    public Void visitAssert(AssertTree tree, Void none) {
        fault("6", tree);
        return super.visitAssert(tree, none);
    }

    @Override
    public Void visitTypeCast(TypeCastTree tree, Void none) {
        TypeMirror to = typeOf(tree.getType());
        ask(to.getKind().isPrimitive() || to.getKind() == TypeKind.TYPEVAR || isOwnClass(to), "6", tree);
        return super.visitTypeCast(tree, none);
    }

    @Override
    public Void visitBinary(BinaryTree tree, Void none) {
        String left = nameOf(typeOf(tree.getLeftOperand()));
        String right = nameOf(typeOf(tree.getRightOperand()));
        boolean sameness = tree.getKind() == Tree.Kind.EQUAL_TO || tree.getKind() == Tree.Kind.NOT_EQUAL_TO;
        ask(!sameness || !left.equals(right) || !left.startsWith("java."), "6", tree);
        ask(tree.getKind() != Tree.Kind.PLUS || !left.equals("java.lang.String") && !right.equals("java.lang.String"),
            "10", tree);
        return super.visitBinary(tree, none);
    }

    @Override
    public Void visitCompoundAssignment(CompoundAssignmentTree tree, Void none) {
        askUnchanged(tree.getVariable());
        ask(!nameOf(typeOf(tree.getVariable())).equals("java.lang.String"), "10", tree);
        return super.visitCompoundAssignment(tree, none);
    }

    @Override
    public Void visitLiteral(LiteralTree tree, Void none) {
        String text = tree.getValue() instanceof String || tree.getValue() instanceof Character
            ? tree.getValue().toString() : "";
        ask(text.chars().allMatch(sign -> sign > 0 && sign < 128), "4", tree);
        return super.visitLiteral(tree, none);
    }

    private void askEnd(ExpressionTree condition, Tree loop) {
        ExpressionTree bare = condition;
        while (bare instanceof ParenthesizedTree around) {
            bare = around.getExpression();
        }
        ask(bare != null && !(bare instanceof LiteralTree), "9", loop);
    }

    @Override
    public Void visitForLoop(ForLoopTree tree, Void none) {
        askEnd(tree.getCondition(), tree);
        return super.visitForLoop(tree, none);
    }

    @Override
    public Void visitWhileLoop(WhileLoopTree tree, Void none) {
        askEnd(tree.getCondition(), tree);
        return super.visitWhileLoop(tree, none);
    }

    @Override
    public Void visitDoWhileLoop(DoWhileLoopTree tree, Void none) {
        askEnd(tree.getCondition(), tree);
        return super.visitDoWhileLoop(tree, none);
    }
}
