import com.sun.source.tree.ArrayAccessTree;
import com.sun.source.tree.AssignmentTree;
import com.sun.source.tree.BinaryTree;
import com.sun.source.tree.BlockTree;
import com.sun.source.tree.ClassTree;
import com.sun.source.tree.CompilationUnitTree;
import com.sun.source.tree.CompoundAssignmentTree;
import com.sun.source.tree.DoWhileLoopTree;
import com.sun.source.tree.ExpressionTree;
import com.sun.source.tree.ForLoopTree;
import com.sun.source.tree.IdentifierTree;
import com.sun.source.tree.LiteralTree;
import com.sun.source.tree.MemberSelectTree;
import com.sun.source.tree.MethodInvocationTree;
import com.sun.source.tree.MethodTree;
import com.sun.source.tree.NewArrayTree;
import com.sun.source.tree.NewClassTree;
import com.sun.source.tree.Tree;
import com.sun.source.tree.UnaryTree;
import com.sun.source.tree.VariableTree;
import com.sun.source.tree.WhileLoopTree;
import com.sun.source.util.JavacTask;
import com.sun.source.util.SourcePositions;
import com.sun.source.util.TreePath;
import com.sun.source.util.TreePathScanner;
import com.sun.source.util.TreeScanner;
import com.sun.source.util.Trees;
import java.io.IOException;
import java.nio.file.Files;
import java.nio.file.Path;
import java.util.EnumSet;
import java.util.HashMap;
import java.util.HashSet;
import java.util.LinkedHashMap;
import java.util.LinkedHashSet;
import java.util.List;
import java.util.Map;
import java.util.Set;
import javax.lang.model.element.Element;
import javax.lang.model.element.ElementKind;
import javax.lang.model.element.ExecutableElement;
import javax.lang.model.element.Modifier;
import javax.lang.model.type.ArrayType;
import javax.lang.model.type.DeclaredType;
import javax.lang.model.type.TypeKind;
import javax.lang.model.type.TypeMirror;
import javax.tools.JavaCompiler;
import javax.tools.StandardJavaFileManager;
import javax.tools.ToolProvider;

/**
 * The rules of LANGUAGE.md, held against the class as the compiler reads it. Where the class needs less than a rule
 * leaves (no exceptions, no recursion, no null), less is allowed here, so that none of it comes in unseen. The argument
 * is another file to look at.
 */
public final class LanguageTest extends TreePathScanner<Void, Void> {

    /** Rules 2, 6 and 10: all that the class is written with. */
    private static final Set<Tree.Kind> KINDS = EnumSet.of(Tree.Kind.COMPILATION_UNIT, Tree.Kind.CLASS,
        Tree.Kind.METHOD, Tree.Kind.VARIABLE, Tree.Kind.BLOCK, Tree.Kind.IF, Tree.Kind.FOR_LOOP, Tree.Kind.WHILE_LOOP,
        Tree.Kind.SWITCH, Tree.Kind.CASE, Tree.Kind.BREAK, Tree.Kind.RETURN, Tree.Kind.EXPRESSION_STATEMENT,
        Tree.Kind.ASSIGNMENT, Tree.Kind.PLUS_ASSIGNMENT, Tree.Kind.MINUS_ASSIGNMENT, Tree.Kind.POSTFIX_INCREMENT,
        Tree.Kind.POSTFIX_DECREMENT, Tree.Kind.UNARY_MINUS, Tree.Kind.LOGICAL_COMPLEMENT, Tree.Kind.PLUS,
        Tree.Kind.MINUS, Tree.Kind.MULTIPLY, Tree.Kind.DIVIDE, Tree.Kind.REMAINDER, Tree.Kind.LEFT_SHIFT,
        Tree.Kind.LESS_THAN, Tree.Kind.LESS_THAN_EQUAL, Tree.Kind.GREATER_THAN, Tree.Kind.GREATER_THAN_EQUAL,
        Tree.Kind.EQUAL_TO, Tree.Kind.NOT_EQUAL_TO, Tree.Kind.CONDITIONAL_AND, Tree.Kind.CONDITIONAL_OR,
        Tree.Kind.CONDITIONAL_EXPRESSION, Tree.Kind.PARENTHESIZED, Tree.Kind.IDENTIFIER, Tree.Kind.MEMBER_SELECT,
        Tree.Kind.ARRAY_ACCESS, Tree.Kind.METHOD_INVOCATION, Tree.Kind.NEW_CLASS, Tree.Kind.NEW_ARRAY,
        Tree.Kind.INT_LITERAL, Tree.Kind.LONG_LITERAL, Tree.Kind.FLOAT_LITERAL, Tree.Kind.CHAR_LITERAL,
        Tree.Kind.BOOLEAN_LITERAL, Tree.Kind.STRING_LITERAL, Tree.Kind.PRIMITIVE_TYPE, Tree.Kind.ARRAY_TYPE,
        Tree.Kind.MODIFIERS, Tree.Kind.TYPE_CAST);

    /** Rule 3: what may be done with floats beside a cast. */
    private static final Set<Tree.Kind> ON_FLOATS = EnumSet.of(Tree.Kind.PLUS, Tree.Kind.MINUS, Tree.Kind.MULTIPLY,
        Tree.Kind.DIVIDE, Tree.Kind.LESS_THAN, Tree.Kind.LESS_THAN_EQUAL, Tree.Kind.GREATER_THAN,
        Tree.Kind.GREATER_THAN_EQUAL, Tree.Kind.EQUAL_TO, Tree.Kind.NOT_EQUAL_TO);

    /** Rule 4: what of the library the class uses. */
    private static final Set<String> LIBRARY = Set.of("java.lang.System.arraycopy", "java.lang.Math.min(int,int)",
        "java.lang.Math.abs(int)", "java.lang.String.length()", "java.lang.String.charAt(int)",
        "java.lang.String.isEmpty()");

    private static final Set<Tree.Kind> COMPARISONS = EnumSet.of(Tree.Kind.LESS_THAN, Tree.Kind.LESS_THAN_EQUAL,
        Tree.Kind.GREATER_THAN, Tree.Kind.GREATER_THAN_EQUAL);

    private final Trees trees;
    private final SourcePositions places;
    private final CompilationUnitTree unit;
    private final Map<Element, Set<Element>> calls = new LinkedHashMap<>();
    private int classes = 0;
    private int methods = 0;
    private int loops = 0;

    private LanguageTest(Trees trees, CompilationUnitTree unit) {
        this.trees = trees;
        this.places = trees.getSourcePositions();
        this.unit = unit;
    }

    public static void main(String[] args) throws IOException {
        Path source = Path.of(args.length > 0 ? args[0] : "src/main/java/ReservoirMind.java");
        JavaCompiler compiler = ToolProvider.getSystemJavaCompiler();
        if (compiler == null) {
            throw new IllegalStateException("this java comes without javac; take the one that stands beside it");
        }
        try (StandardJavaFileManager files = compiler.getStandardFileManager(null, null, null)) {
            JavacTask task = (JavacTask) compiler.getTask(null, files, null, List.of("--release", "17"), null,
                files.getJavaFileObjects(source.toFile()));
            CompilationUnitTree unit = task.parse().iterator().next();
            task.analyze();
            LanguageTest test = new LanguageTest(Trees.instance(task), unit);
            test.theFile(Files.readString(source));
            test.scan(new TreePath(unit), null);
            test.callsEnd();
            test.sizes();
        }
        Due.end("LanguageTest");
    }

    private void rule(String rule, Tree at, boolean holds) {
        long line = unit.getLineMap().getLineNumber(places.getStartPosition(unit, at));
        Due.holds("LANGUAGE " + rule + ", line " + line + ": " + at.toString().lines().findFirst().orElse(""), holds);
    }

    private void theFile(String source) {
        rule("one file without a package line", unit, unit.getPackage() == null);
        rule("4 nothing of the library is named at the top", unit, unit.getImports().isEmpty());
        rule("one public class", unit, unit.getTypeDecls().size() == 1);
        Due.holds("LANGUAGE 3 signs 1 to 127 alone", source.chars().allMatch(sign -> sign > 0 && sign < 128));
    }

    @Override
    public Void scan(Tree tree, Void nothing) {
        if (tree != null) {
            rule("2, 6, 10 what it is written with", tree, KINDS.contains(tree.getKind()));
        }
        return super.scan(tree, nothing);
    }

    private Element element() {
        return trees.getElement(getCurrentPath());
    }

    private TypeMirror type(Tree tree) {
        return trees.getTypeMirror(new TreePath(getCurrentPath(), tree));
    }

    // ---- rules 1, 2, 5, 11, 12: classes, fields, methods

    @Override
    public Void visitClass(ClassTree tree, Void nothing) {
        classes++;
        boolean isInside = getCurrentPath().getParentPath().getLeaf().getKind() == Tree.Kind.CLASS;
        Set<Modifier> modifiers = tree.getModifiers().getFlags();
        Set<Modifier> due = isInside ? Set.of(Modifier.PRIVATE, Modifier.STATIC, Modifier.FINAL)
            : Set.of(Modifier.PUBLIC, Modifier.FINAL);
        rule("1, 2, 12 classes are final, those inside private and static", tree, modifiers.equals(due));
        int fields = 0;
        for (Tree member : tree.getMembers()) {
            if (member.getKind() == Tree.Kind.VARIABLE) {
                fields += isStatic((VariableTree) member) ? 0 : 1;
            }
            rule("5 no initialiser block", member, !(member instanceof BlockTree));
        }
        rule("11 some twenty fields beside constants, not " + fields, tree, fields <= 20);
        return super.visitClass(tree, nothing);
    }

    private static boolean isStatic(VariableTree tree) {
        return tree.getModifiers().getFlags().contains(Modifier.STATIC);
    }

    @Override
    public Void visitVariable(VariableTree tree, Void nothing) {
        rule("3 types", tree, isAllowed(trees.getTypeMirror(getCurrentPath())));
        if (isStatic(tree)) {
            String type = trees.getTypeMirror(getCurrentPath()).toString();
            rule("5 static fields are final", tree, tree.getModifiers().getFlags().contains(Modifier.FINAL));
            rule("5 static fields are constants", tree,
                Set.of("int", "long", "boolean", "char", "java.lang.String", "int[]").contains(type));
            rule("5 arrays are written out", tree, !type.endsWith("]") || isWrittenOut(tree.getInitializer()));
        }
        return super.visitVariable(tree, nothing);
    }

    private static boolean isWrittenOut(ExpressionTree made) {
        if (!(made instanceof NewArrayTree) || ((NewArrayTree) made).getInitializers() == null) {
            return false;
        }
        for (ExpressionTree item : ((NewArrayTree) made).getInitializers()) {
            if (item.getKind() != Tree.Kind.INT_LITERAL && item.getKind() != Tree.Kind.UNARY_MINUS) {
                return false;
            }
        }
        return true;
    }

    /** Numbers, booleans, String, own classes, and rows of one dimension of numbers or own classes. */
    private static boolean isAllowed(TypeMirror type) {
        if (type.getKind() == TypeKind.ARRAY) {
            TypeMirror item = ((ArrayType) type).getComponentType();
            return item.getKind().isPrimitive() || isOwn(item);
        }
        return type.getKind().isPrimitive() || type.toString().equals("java.lang.String") || isOwn(type);
    }

    private static boolean isOwn(TypeMirror type) {
        return type.getKind() == TypeKind.DECLARED
            && isOwn(((DeclaredType) type).asElement());
    }

    private static boolean isOwn(Element element) {
        Element at = element;
        while (at.getEnclosingElement() != null && at.getEnclosingElement().getKind() != ElementKind.PACKAGE) {
            at = at.getEnclosingElement();
        }
        return at.getSimpleName().contentEquals("ReservoirMind");
    }

    @Override
    public Void visitMethod(MethodTree tree, Void nothing) {
        methods++;
        rule("11 seven parameters at most", tree, tree.getParameters().size() <= 7);
        rule("6 it throws nothing", tree, tree.getThrows().isEmpty());
        rule("2 no generic ones", tree, tree.getTypeParameters().isEmpty());
        if (tree.getReturnType() != null) {
            TypeMirror type = type(tree.getReturnType());
            rule("3 types", tree, type.getKind() == TypeKind.VOID || isAllowed(type));
        }
        long start = unit.getLineMap().getLineNumber(places.getStartPosition(unit, tree));
        long end = unit.getLineMap().getLineNumber(places.getEndPosition(unit, tree));
        rule("11 some sixty lines, not " + (end - start), tree, end - start < 60);
        calls.putIfAbsent(element(), new LinkedHashSet<>());
        return super.visitMethod(tree, nothing);
    }

    /** In which method this is, a constructor too; null in a field's first value. */
    private MethodTree method() {
        for (Tree at : getCurrentPath()) {
            if (at instanceof MethodTree) {
                return (MethodTree) at;
            }
        }
        return null;
    }

    private boolean isMadeWithTheObject() {
        return method() == null || method().getName().contentEquals("<init>");
    }

    @Override
    public Void visitNewClass(NewClassTree tree, Void nothing) {
        rule("2 no anonymous class", tree, tree.getClassBody() == null);
        rule("4 own classes alone", tree, isOwn(element()));
        rule("12 objects are made with the object", tree, isMadeWithTheObject());
        return super.visitNewClass(tree, nothing);
    }

    @Override
    public Void visitNewArray(NewArrayTree tree, Void nothing) {
        rule("12 rows are made with the object", tree, isMadeWithTheObject());
        return super.visitNewArray(tree, nothing);
    }

    @Override
    public Void visitIdentifier(IdentifierTree tree, Void nothing) {
        boolean isThis = tree.getName().contentEquals("this");
        rule("12 nothing of the object is handed out", tree,
            !isThis || getCurrentPath().getParentPath().getLeaf() instanceof MemberSelectTree);
        return super.visitIdentifier(tree, nothing);
    }

    // ---- rules 4, 8, 11: calls

    @Override
    public Void visitMethodInvocation(MethodInvocationTree tree, Void nothing) {
        ExecutableElement called = (ExecutableElement) element();
        if (isOwn(called)) {
            // calls in a field's first value would not be seen as a method's
            rule("11 calls stand in methods", tree,
                method() != null || called.getSimpleName().contentEquals("<init>"));
            if (method() != null) {
                Element caller = trees.getElement(trees.getPath(unit, method()));
                calls.computeIfAbsent(caller, k -> new LinkedHashSet<>()).add(called);
            }
        } else if (!called.getSimpleName().contentEquals("<init>")) {
            rule("4 the library: " + name(called), tree, LIBRARY.contains(name(called)));
        }
        return super.visitMethodInvocation(tree, nothing);
    }

    private static String name(ExecutableElement called) {
        String of = called.getEnclosingElement().toString();
        return called.getSimpleName().contentEquals("arraycopy") ? of + ".arraycopy" : of + "." + called;
    }

    private void callsEnd() {
        Map<Element, Integer> deepest = new HashMap<>();
        for (Element method : calls.keySet()) {
            int depth = depth(method, new HashSet<>(), deepest);
            Due.holds("LANGUAGE 8 no recursion, 11 eight deep at most, not " + depth + ": " + method, depth <= 8);
        }
    }

    /** How many calls stand open at most; 99 if it comes to itself again. */
    private int depth(Element method, Set<Element> open, Map<Element, Integer> deepest) {
        if (!open.add(method)) {
            return 99;
        }
        Integer known = deepest.get(method);
        int most = known == null ? 0 : known - 1;
        if (known == null) {
            for (Element called : calls.getOrDefault(method, Set.of())) {
                most = Math.max(most, depth(called, open, deepest));
            }
        }
        open.remove(method);
        deepest.put(method, Math.min(99, most + 1));
        return Math.min(99, most + 1);
    }

    // ---- rules 3, 5, 10: what is done with numbers and texts

    @Override
    public Void visitBinary(BinaryTree tree, Void nothing) {
        TypeMirror left = type(tree.getLeftOperand());
        TypeMirror right = type(tree.getRightOperand());
        boolean isFloat = left.getKind() == TypeKind.FLOAT || right.getKind() == TypeKind.FLOAT;
        rule("3 on floats", tree, !isFloat || ON_FLOATS.contains(tree.getKind()));
        rule("3 floats meet floats", tree, !isFloat || left.getKind() == right.getKind());
        rule("6, 10 texts are neither joined nor compared so", tree,
            left.getKind().isPrimitive() && right.getKind().isPrimitive());
        return super.visitBinary(tree, nothing);
    }

    @Override
    public Void visitUnary(UnaryTree tree, Void nothing) {
        TypeMirror type = type(tree.getExpression());
        rule("3 on floats", tree, type.getKind() != TypeKind.FLOAT || tree.getKind() == Tree.Kind.UNARY_MINUS);
        neverOfAConstantRow(tree.getExpression());
        return super.visitUnary(tree, nothing);
    }

    @Override
    public Void visitAssignment(AssignmentTree tree, Void nothing) {
        neverOfAConstantRow(tree.getVariable());
        return super.visitAssignment(tree, nothing);
    }

    @Override
    public Void visitCompoundAssignment(CompoundAssignmentTree tree, Void nothing) {
        rule("3 on floats it is written out", tree, type(tree.getVariable()).getKind() != TypeKind.FLOAT);
        neverOfAConstantRow(tree.getVariable());
        return super.visitCompoundAssignment(tree, nothing);
    }

    private void neverOfAConstantRow(ExpressionTree changed) {
        if (changed instanceof ArrayAccessTree) {
            ExpressionTree row = ((ArrayAccessTree) changed).getExpression();
            Element field = trees.getElement(TreePath.getPath(getCurrentPath(), row));
            rule("5 a constant row is never changed", changed, !field.getModifiers().contains(Modifier.STATIC));
        }
    }

    @Override
    public Void visitLiteral(LiteralTree tree, Void nothing) {
        boolean isText = tree.getKind() == Tree.Kind.STRING_LITERAL;
        rule("4 signs of constants are 1 to 127", tree,
            !isText || ((String) tree.getValue()).chars().allMatch(sign -> sign > 0 && sign < 128));
        return super.visitLiteral(tree, nothing);
    }

    // ---- rule 9: loops

    @Override
    public Void visitForLoop(ForLoopTree tree, Void nothing) {
        rule("9 a counter against a bound", tree, tree.getCondition() != null && tree.getUpdate().size() == 1
            && isCounted(tree.getCondition(), tree.getUpdate().get(0)));
        loops++;
        return super.visitForLoop(tree, nothing);
    }

    @Override
    public Void visitWhileLoop(WhileLoopTree tree, Void nothing) {
        rule("9 a counter against a bound", tree, isCounted(tree.getCondition(), tree.getStatement()));
        loops++;
        return super.visitWhileLoop(tree, nothing);
    }

    @Override
    public Void visitDoWhileLoop(DoWhileLoopTree tree, Void nothing) {
        rule("9 a counter against a bound", tree, isCounted(tree.getCondition(), tree.getStatement()));
        loops++;
        return super.visitDoWhileLoop(tree, nothing);
    }

    /** Whether one of what must hold for another turn is a comparison of a name that each turn counts up or down. */
    private static boolean isCounted(Tree condition, Tree turn) {
        Set<String> counted = new HashSet<>();
        new TreeScanner<Void, Void>() {
            @Override
            public Void visitUnary(UnaryTree tree, Void nothing) {
                counted.add(tree.getExpression().toString());
                return super.visitUnary(tree, nothing);
            }
        }.scan(turn, null);
        boolean[] found = {false};
        new TreeScanner<Void, Void>() {
            @Override
            public Void visitBinary(BinaryTree tree, Void nothing) {
                if (COMPARISONS.contains(tree.getKind()) && counted.contains(tree.getLeftOperand().toString())) {
                    found[0] = true;
                }
                return tree.getKind() == Tree.Kind.CONDITIONAL_OR ? null : super.visitBinary(tree, nothing);
            }
        }.scan(condition, null);
        return found[0];
    }

    private void sizes() {
        Due.holds("LANGUAGE 11 some twelve classes at most, not " + classes, classes <= 12);
        Due.holds("methods and loops were looked at: " + methods + ", " + loops, methods > 80 && loops > 40);
    }
}
