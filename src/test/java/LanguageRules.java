import com.sun.source.tree.ArrayTypeTree;
import com.sun.source.tree.AssignmentTree;
import com.sun.source.tree.BinaryTree;
import com.sun.source.tree.CaseTree;
import com.sun.source.tree.ClassTree;
import com.sun.source.tree.CompilationUnitTree;
import com.sun.source.tree.CompoundAssignmentTree;
import com.sun.source.tree.DoWhileLoopTree;
import com.sun.source.tree.EnhancedForLoopTree;
import com.sun.source.tree.ExpressionTree;
import com.sun.source.tree.ForLoopTree;
import com.sun.source.tree.IdentifierTree;
import com.sun.source.tree.MemberSelectTree;
import com.sun.source.tree.MethodInvocationTree;
import com.sun.source.tree.MethodTree;
import com.sun.source.tree.NewArrayTree;
import com.sun.source.tree.NewClassTree;
import com.sun.source.tree.ParenthesizedTree;
import com.sun.source.tree.Tree;
import com.sun.source.tree.UnaryTree;
import com.sun.source.tree.VariableTree;
import com.sun.source.tree.WhileLoopTree;
import com.sun.source.util.JavacTask;
import com.sun.source.util.TreePath;
import com.sun.source.util.TreePathScanner;
import com.sun.source.util.TreeScanner;
import com.sun.source.util.Trees;
import java.io.IOException;
import java.net.URI;
import java.util.ArrayList;
import java.util.EnumSet;
import java.util.HashMap;
import java.util.LinkedHashSet;
import java.util.List;
import java.util.Map;
import java.util.Set;
import java.util.TreeSet;
import javax.lang.model.element.Element;
import javax.lang.model.element.ExecutableElement;
import javax.lang.model.element.Modifier;
import javax.lang.model.element.TypeElement;
import javax.lang.model.element.VariableElement;
import javax.lang.model.type.ArrayType;
import javax.lang.model.type.DeclaredType;
import javax.lang.model.type.TypeKind;
import javax.lang.model.type.TypeMirror;
import javax.tools.DiagnosticCollector;
import javax.tools.JavaCompiler;
import javax.tools.JavaFileObject;
import javax.tools.SimpleJavaFileObject;
import javax.tools.ToolProvider;

/**
 * Looks through a source with the compiler's own tree for what ../shared/LANGUAGE.md leaves out. It is stricter than
 * the rules: what the class has no need of (texts, lists, recursion, objects made after the constructor) is left out
 * too.
 */
final class LanguageRules extends TreePathScanner<Void, Void> {
    private static final int MOST_CLASSES = 12;
    private static final int MOST_FIELDS = 20;
    private static final int MOST_LINES = 60;
    private static final int MOST_PARAMETERS = 7;
    private static final int DEEPEST = 8;

    private static final Set<Tree.Kind> PARTS = EnumSet.of(
            Tree.Kind.COMPILATION_UNIT, Tree.Kind.CLASS, Tree.Kind.METHOD, Tree.Kind.VARIABLE, Tree.Kind.MODIFIERS,
            Tree.Kind.PRIMITIVE_TYPE, Tree.Kind.ARRAY_TYPE, Tree.Kind.BLOCK, Tree.Kind.IF, Tree.Kind.FOR_LOOP,
            Tree.Kind.WHILE_LOOP, Tree.Kind.SWITCH, Tree.Kind.CASE, Tree.Kind.BREAK, Tree.Kind.RETURN,
            Tree.Kind.EXPRESSION_STATEMENT, Tree.Kind.METHOD_INVOCATION, Tree.Kind.NEW_CLASS, Tree.Kind.NEW_ARRAY,
            Tree.Kind.ARRAY_ACCESS, Tree.Kind.IDENTIFIER, Tree.Kind.MEMBER_SELECT, Tree.Kind.ASSIGNMENT,
            Tree.Kind.PLUS_ASSIGNMENT, Tree.Kind.POSTFIX_INCREMENT, Tree.Kind.POSTFIX_DECREMENT,
            Tree.Kind.UNARY_MINUS, Tree.Kind.BITWISE_COMPLEMENT, Tree.Kind.LOGICAL_COMPLEMENT, Tree.Kind.PLUS,
            Tree.Kind.MINUS, Tree.Kind.MULTIPLY, Tree.Kind.DIVIDE, Tree.Kind.REMAINDER, Tree.Kind.LEFT_SHIFT,
            Tree.Kind.RIGHT_SHIFT, Tree.Kind.AND, Tree.Kind.OR, Tree.Kind.CONDITIONAL_AND, Tree.Kind.CONDITIONAL_OR,
            Tree.Kind.LESS_THAN, Tree.Kind.LESS_THAN_EQUAL, Tree.Kind.GREATER_THAN, Tree.Kind.GREATER_THAN_EQUAL,
            Tree.Kind.EQUAL_TO, Tree.Kind.NOT_EQUAL_TO, Tree.Kind.CONDITIONAL_EXPRESSION, Tree.Kind.PARENTHESIZED,
            Tree.Kind.INT_LITERAL, Tree.Kind.CHAR_LITERAL, Tree.Kind.BOOLEAN_LITERAL);
    private static final Set<String> LIBRARY = Set.of("java.lang.Math.max", "java.lang.Math.min",
            "java.lang.Math.floorMod", "java.lang.Integer.bitCount", "java.lang.System.arraycopy");
    private static final Set<TypeKind> PRIMITIVES = EnumSet.of(TypeKind.INT, TypeKind.BOOLEAN, TypeKind.VOID);

    private final Set<String> complaints = new LinkedHashSet<>();
    private final Map<Element, Set<Element>> callsOf = new HashMap<>();
    private final Set<String> publicNames = new TreeSet<>();
    private final Trees trees;
    private final CompilationUnitTree unit;
    private int classes;
    private int methods;
    private int loops;

    LanguageRules(String source) throws IOException {
        JavaCompiler compiler = ToolProvider.getSystemJavaCompiler();
        JavaFileObject text = new SimpleJavaFileObject(URI.create("string:///ProxyVersions.java"),
                JavaFileObject.Kind.SOURCE) {
            @Override
            public CharSequence getCharContent(boolean ignored) {
                return source;
            }
        };
        DiagnosticCollector<JavaFileObject> errors = new DiagnosticCollector<>();
        JavacTask task = (JavacTask) compiler.getTask(null, null, errors, List.of("-proc:none"), null, List.of(text));
        trees = Trees.instance(task);
        unit = task.parse().iterator().next();
        task.analyze();
        errors.getDiagnostics().forEach(error -> complaints.add(error.toString()));
        scan(unit, null);
        depths();
        if (source.chars().anyMatch(sign -> sign > 127)) {
            complain(4, "a sign beyond 127");
        }
    }

    Set<String> complaints() {
        return complaints;
    }

    int methods() {
        return methods;
    }

    int loops() {
        return loops;
    }

    private void complain(int rule, String what) {
        complaints.add("rule " + rule + ": " + what);
    }

    private Element elementOf(Tree tree) {
        return trees.getElement(new TreePath(getCurrentPath(), tree));
    }

    private TypeMirror typeOf(Tree tree) {
        return trees.getTypeMirror(new TreePath(getCurrentPath(), tree));
    }

    @Override
    public Void scan(Tree tree, Void nothing) {
        if (tree != null && !PARTS.contains(tree.getKind())) {
            complaints.add(tree.getKind() + ": " + tree);
        }
        return super.scan(tree, nothing);
    }

    @Override
    public Void visitCompilationUnit(CompilationUnitTree tree, Void nothing) {
        if (tree.getPackageName() != null || !tree.getImports().isEmpty() || tree.getTypeDecls().size() != 1) {
            complain(1, "a package, an import or a second class of the file");
        }
        return super.visitCompilationUnit(tree, nothing);
    }

    @Override
    public Void visitClass(ClassTree tree, Void nothing) {
        classes++;
        if (classes > MOST_CLASSES) {
            complain(11, "too many classes");
        }
        Set<Modifier> modifiers = tree.getModifiers().getFlags();
        boolean isFace = getCurrentPath().getParentPath().getLeaf() == unit;
        boolean isMember = getCurrentPath().getParentPath().getLeaf().getKind() == Tree.Kind.CLASS;
        if (isFace) {
            collectPublicNames(tree);
        } else if (!isMember || !modifiers.contains(Modifier.STATIC) || modifiers.contains(Modifier.PUBLIC)
                || modifiers.contains(Modifier.PROTECTED)) {
            complain(2, "class " + tree.getSimpleName());
        }
        if (tree.getExtendsClause() != null || !tree.getImplementsClause().isEmpty()) {
            complain(2, "a class above " + tree.getSimpleName());
        }
        int fields = 0;
        for (Tree member : tree.getMembers()) {
            if (member.getKind() == Tree.Kind.BLOCK) {
                complain(5, "a block of initialisation");
            }
            if (member instanceof VariableTree field) {
                fields += isField(field, isFace) ? 1 : 0;
            }
        }
        if (fields > MOST_FIELDS) {
            complain(11, "too many fields in " + tree.getSimpleName());
        }
        return super.visitClass(tree, nothing);
    }

    private void collectPublicNames(ClassTree tree) {
        for (Tree member : tree.getMembers()) {
            if (member instanceof MethodTree method && isPublic(method.getModifiers().getFlags())) {
                publicNames.add(method.getName().toString());
            }
        }
    }

    private static boolean isPublic(Set<Modifier> modifiers) {
        return modifiers.contains(Modifier.PUBLIC);
    }

    /** Answers whether it belongs to each object, and is not a constant. */
    private boolean isField(VariableTree field, boolean isFace) {
        Set<Modifier> modifiers = field.getModifiers().getFlags();
        VariableElement element = (VariableElement) elementOf(field);
        if (isFace && !modifiers.contains(Modifier.PRIVATE) && !element.getSimpleName().toString().matches("[A-Z_]+")) {
            complain(1, "a field of the face: " + field);
        }
        if (!modifiers.contains(Modifier.STATIC)) {
            return true;
        }
        if (element.getConstantValue() == null) {
            complain(5, "a static field that is no constant: " + field);
        }
        return false;
    }

    @Override
    public Void visitMethod(MethodTree tree, Void nothing) {
        methods++;
        Element element = trees.getElement(getCurrentPath());
        callsOf.computeIfAbsent(element, key -> new LinkedHashSet<>());
        Set<Modifier> modifiers = tree.getModifiers().getFlags();
        boolean isConstructor = tree.getReturnType() == null;
        boolean inFace = getCurrentPath().getParentPath().getParentPath().getLeaf() == unit;
        if (inFace && !isPublic(modifiers) && !modifiers.contains(Modifier.PRIVATE)) {
            complain(1, "neither public nor private: " + tree.getName());
        }
        boolean ofTheFace = inFace && isPublic(modifiers);
        if (!isConstructor && !ofTheFace && publicNames.contains(tree.getName().toString())) {
            complain(1, "has the name of a public method: " + tree.getName());
        }
        if (tree.getParameters().size() > MOST_PARAMETERS) {
            complain(11, "too many parameters: " + tree.getName());
        }
        if (linesOf(tree) > MOST_LINES) {
            complain(11, "too long: " + tree.getName());
        }
        if (!isConstructor) {
            allow(3, ((ExecutableElement) element).getReturnType(), tree.getName().toString());
        }
        return super.visitMethod(tree, nothing);
    }

    private long linesOf(Tree tree) {
        long start = trees.getSourcePositions().getStartPosition(unit, tree);
        long end = trees.getSourcePositions().getEndPosition(unit, tree);
        return start < 0 || end < 0 ? 0
                : unit.getLineMap().getLineNumber(end) - unit.getLineMap().getLineNumber(start) + 1;
    }

    @Override
    public Void visitVariable(VariableTree tree, Void nothing) {
        allow(3, elementOf(tree).asType(), tree.toString());
        return super.visitVariable(tree, nothing);
    }

    /** int, boolean, a class of its own, and arrays of int and of such classes. */
    private void allow(int rule, TypeMirror type, String where) {
        TypeMirror inner = type instanceof ArrayType array ? array.getComponentType() : type;
        boolean ofTheFile = inner instanceof DeclaredType && inner.toString().startsWith("ProxyVersions");
        if (!PRIMITIVES.contains(inner.getKind()) && !ofTheFile) {
            complain(rule, "type " + type + " of " + where);
        }
    }

    @Override
    public Void visitMethodInvocation(MethodInvocationTree tree, Void nothing) {
        Element called = elementOf(tree);
        String owner = called.getEnclosingElement().toString();
        if (!owner.startsWith("ProxyVersions") && !isSuper(tree)
                && !LIBRARY.contains(owner + "." + called.getSimpleName())) {
            complain(4, "calls " + owner + "." + called);
        }
        noteCall(called);
        return super.visitMethodInvocation(tree, nothing);
    }

    /** The call that the compiler puts at the start of a constructor. */
    private static boolean isSuper(MethodInvocationTree tree) {
        return tree.getMethodSelect().toString().equals("super");
    }

    private void noteCall(Element called) {
        TreePath caller = methodHere();
        if (caller != null) {
            callsOf.computeIfAbsent(trees.getElement(caller), key -> new LinkedHashSet<>()).add(called);
        }
    }

    private TreePath methodHere() {
        TreePath path = getCurrentPath();
        while (path != null && path.getLeaf().getKind() != Tree.Kind.METHOD) {
            path = path.getParentPath();
        }
        return path;
    }

    @Override
    public Void visitNewClass(NewClassTree tree, Void nothing) {
        noteMaking(tree);
        noteCall(elementOf(tree));
        allow(3, typeOf(tree), tree.toString());
        return super.visitNewClass(tree, nothing);
    }

    @Override
    public Void visitNewArray(NewArrayTree tree, Void nothing) {
        noteMaking(tree);
        if (tree.getDimensions().size() != 1) {
            complain(3, "an array of other than one dimension: " + tree);
        }
        return super.visitNewArray(tree, nothing);
    }

    private void noteMaking(Tree tree) {
        TreePath path = methodHere();
        if (path != null && path.getLeaf() instanceof MethodTree method && method.getReturnType() != null) {
            complain(12, "made in " + method.getName() + "(), not in a constructor: " + tree);
        }
    }

    @Override
    public Void visitArrayType(ArrayTypeTree tree, Void nothing) {
        if (tree.getType().getKind() == Tree.Kind.ARRAY_TYPE) {
            complain(3, "an array of two dimensions");
        }
        return super.visitArrayType(tree, nothing);
    }

    @Override
    public Void visitBinary(BinaryTree tree, Void nothing) {
        if (!typeOf(tree.getLeftOperand()).getKind().isPrimitive()
                || !typeOf(tree.getRightOperand()).getKind().isPrimitive()) {
            complain(6, "not between numbers: " + tree);
        }
        boolean divides = tree.getKind() == Tree.Kind.DIVIDE || tree.getKind() == Tree.Kind.REMAINDER;
        if (divides && !(elementOf(tree.getRightOperand()) instanceof VariableElement divisor
                && divisor.getConstantValue() instanceof Integer value && value != 0)) {
            complain(7, "a divisor that is no constant: " + tree);
        }
        return super.visitBinary(tree, nothing);
    }

    @Override
    public Void visitCase(CaseTree tree, Void nothing) {
        if (tree.getCaseKind() != CaseTree.CaseKind.STATEMENT) {
            complain(6, "a case with an arrow");
        }
        return super.visitCase(tree, nothing);
    }

    @Override
    public Void visitForLoop(ForLoopTree tree, Void nothing) {
        loop(tree, tree.getCondition());
        return super.visitForLoop(tree, nothing);
    }

    @Override
    public Void visitWhileLoop(WhileLoopTree tree, Void nothing) {
        loop(tree, tree.getCondition());
        return super.visitWhileLoop(tree, nothing);
    }

    @Override
    public Void visitDoWhileLoop(DoWhileLoopTree tree, Void nothing) {
        loop(tree, tree.getCondition());
        return super.visitDoWhileLoop(tree, nothing);
    }

    @Override
    public Void visitEnhancedForLoop(EnhancedForLoopTree tree, Void nothing) {
        loop(tree, null);
        return super.visitEnhancedForLoop(tree, nothing);
    }

    /** One part of the condition holds a counter against a bound, to which it comes by steps of one. */
    private void loop(Tree loop, ExpressionTree condition) {
        loops++;
        List<ExpressionTree> parts = new ArrayList<>();
        split(condition, parts);
        boolean hasEnd = false;
        for (ExpressionTree part : parts) {
            hasEnd |= part instanceof BinaryTree comparison && isBound(loop, comparison);
        }
        if (!hasEnd) {
            complain(9, "no end to be seen: " + loop);
        }
    }

    private static void split(ExpressionTree condition, List<ExpressionTree> parts) {
        if (condition instanceof ParenthesizedTree inner) {
            split(inner.getExpression(), parts);
        } else if (condition != null && condition.getKind() == Tree.Kind.CONDITIONAL_AND) {
            split(((BinaryTree) condition).getLeftOperand(), parts);
            split(((BinaryTree) condition).getRightOperand(), parts);
        } else if (condition != null) {
            parts.add(condition);
        }
    }

    private boolean isBound(Tree loop, BinaryTree comparison) {
        if (!(comparison.getLeftOperand() instanceof IdentifierTree counter)) {
            return false;
        }
        boolean ascends = comparison.getKind() == Tree.Kind.LESS_THAN
                || comparison.getKind() == Tree.Kind.LESS_THAN_EQUAL;
        boolean descends = comparison.getKind() == Tree.Kind.GREATER_THAN
                || comparison.getKind() == Tree.Kind.GREATER_THAN_EQUAL;
        Steps steps = new Steps(counter.getName().toString(), namesIn(comparison.getRightOperand()));
        Tree[] repeated = loop instanceof ForLoopTree each
                ? new Tree[] {each.getStatement(), each.getUpdate().isEmpty() ? null : each.getUpdate().get(0)}
                : new Tree[] {loop};
        for (Tree tree : repeated) {
            steps.scan(tree, null);
        }
        return steps.others == 0 && (ascends && steps.up == 1 && steps.down == 0
                || descends && steps.down == 1 && steps.up == 0);
    }

    private static Set<String> namesIn(Tree tree) {
        Set<String> names = new TreeSet<>();
        new TreeScanner<Void, Void>() {
            @Override
            public Void visitIdentifier(IdentifierTree identifier, Void nothing) {
                names.add(identifier.getName().toString());
                return null;
            }
        }.scan(tree, null);
        return names;
    }

    /** How a counter is changed, and whether what it is held against is. */
    private static final class Steps extends TreeScanner<Void, Void> {
        private final String counter;
        private final Set<String> bound;
        private int up;
        private int down;
        private int others;

        Steps(String counter, Set<String> bound) {
            this.counter = counter;
            this.bound = bound;
        }

        @Override
        public Void visitUnary(UnaryTree tree, Void nothing) {
            boolean steps = tree.getExpression().toString().equals(counter);
            up += steps && tree.getKind() == Tree.Kind.POSTFIX_INCREMENT ? 1 : 0;
            down += steps && tree.getKind() == Tree.Kind.POSTFIX_DECREMENT ? 1 : 0;
            boolean changes = tree.getKind() == Tree.Kind.POSTFIX_INCREMENT
                    || tree.getKind() == Tree.Kind.POSTFIX_DECREMENT;
            others += changes && bound.contains(tree.getExpression().toString()) ? 1 : 0;
            return super.visitUnary(tree, nothing);
        }

        @Override
        public Void visitAssignment(AssignmentTree tree, Void nothing) {
            note(tree.getVariable());
            return super.visitAssignment(tree, nothing);
        }

        @Override
        public Void visitCompoundAssignment(CompoundAssignmentTree tree, Void nothing) {
            note(tree.getVariable());
            return super.visitCompoundAssignment(tree, nothing);
        }

        private void note(ExpressionTree variable) {
            String name = variable.toString();
            others += name.equals(counter) || bound.contains(name) ? 1 : 0;
        }
    }

    /** The longest chain of calls, those of the library counted too; a ring of calls has no end. */
    private void depths() {
        Map<Element, Integer> known = new HashMap<>();
        for (Element method : new ArrayList<>(callsOf.keySet())) {
            int depth = depthOf(method, known, new ArrayList<>());
            if (depth > DEEPEST) {
                complain(11, depth + " calls deep: " + method);
            }
        }
    }

    private int depthOf(Element method, Map<Element, Integer> known, List<Element> open) {
        if (open.contains(method)) {
            complain(8, "calls itself: " + open);
            return 0;
        }
        if (!known.containsKey(method)) {
            open.add(method);
            int below = 0;
            for (Element called : callsOf.getOrDefault(method, Set.of())) {
                below = Math.max(below, depthOf(called, known, open));
            }
            open.remove(method);
            known.put(method, below + 1);
        }
        return known.get(method);
    }

    @Override
    public Void visitMemberSelect(MemberSelectTree tree, Void nothing) {
        Element element = elementOf(tree);
        if (element instanceof TypeElement && !element.toString().startsWith("ProxyVersions")) {
            complain(4, "names " + element);
        }
        return super.visitMemberSelect(tree, nothing);
    }
}
