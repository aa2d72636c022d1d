import com.sun.source.tree.*;
import com.sun.source.util.JavacTask;
import com.sun.source.util.TreePath;
import com.sun.source.util.TreePathScanner;
import com.sun.source.util.Trees;
import java.io.File;
import java.io.IOException;
import java.util.Arrays;
import java.util.HashMap;
import java.util.HashSet;
import java.util.List;
import java.util.Map;
import java.util.Set;
import java.util.TreeSet;
import javax.lang.model.element.Element;
import javax.lang.model.element.ElementKind;
import javax.lang.model.element.Modifier;
import javax.tools.JavaCompiler;
import javax.tools.StandardJavaFileManager;
import javax.tools.ToolProvider;

/**
 * The source of Bags keeps to ../shared/LANGUAGE.md, rule by rule, as it is seen in the tree that javac makes of it
 * (the face and its names, of rule 1, are looked at by FaceTest). Where the rules leave more than the class uses, this
 * test leaves only what is used: who wants more of it adds it here, with the rule in hand.
 * An argument tells another file that is looked at.
 */
public final class LanguageTest extends TreePathScanner<Void, Void> {
    private static final String DUE = "src/main/java/Bags.java";
    private static final int MOST_DEPTH = 8;

    /** Rules 2, 6, 8, 9, 10: no lambda, method reference, try, synchronized, assert, instanceof, while, and so on. */
    private static final Set<Tree.Kind> KINDS = Set.of(Tree.Kind.COMPILATION_UNIT, Tree.Kind.CLASS,
        Tree.Kind.MODIFIERS, Tree.Kind.METHOD, Tree.Kind.VARIABLE, Tree.Kind.PRIMITIVE_TYPE, Tree.Kind.ARRAY_TYPE,
        Tree.Kind.IDENTIFIER, Tree.Kind.MEMBER_SELECT, Tree.Kind.METHOD_INVOCATION, Tree.Kind.NEW_CLASS,
        Tree.Kind.NEW_ARRAY, Tree.Kind.ARRAY_ACCESS, Tree.Kind.TYPE_CAST, Tree.Kind.PARENTHESIZED,
        Tree.Kind.INT_LITERAL, Tree.Kind.LONG_LITERAL, Tree.Kind.BOOLEAN_LITERAL, Tree.Kind.CHAR_LITERAL,
        Tree.Kind.STRING_LITERAL, Tree.Kind.BLOCK, Tree.Kind.EXPRESSION_STATEMENT, Tree.Kind.RETURN, Tree.Kind.THROW,
        Tree.Kind.IF, Tree.Kind.FOR_LOOP, Tree.Kind.SWITCH, Tree.Kind.CASE, Tree.Kind.BREAK,
        Tree.Kind.CONDITIONAL_EXPRESSION, Tree.Kind.CONDITIONAL_AND, Tree.Kind.CONDITIONAL_OR,
        Tree.Kind.LOGICAL_COMPLEMENT, Tree.Kind.EQUAL_TO, Tree.Kind.NOT_EQUAL_TO, Tree.Kind.LESS_THAN,
        Tree.Kind.LESS_THAN_EQUAL, Tree.Kind.GREATER_THAN, Tree.Kind.GREATER_THAN_EQUAL, Tree.Kind.PLUS,
        Tree.Kind.MINUS, Tree.Kind.MULTIPLY, Tree.Kind.DIVIDE, Tree.Kind.UNARY_MINUS, Tree.Kind.ASSIGNMENT,
        Tree.Kind.PLUS_ASSIGNMENT, Tree.Kind.MINUS_ASSIGNMENT, Tree.Kind.POSTFIX_INCREMENT,
        Tree.Kind.POSTFIX_DECREMENT);
    private static final Set<String> TYPES = Set.of("int", "long", "boolean", "int[]", "String", "StringBuilder",
        "Bag", "Lens", "Pairing", "Window");
    /** Rule 4. */
    private static final Set<String> LIBRARY = Set.of("StringBuilder.append(char)", "StringBuilder.append(int)",
        "StringBuilder.setLength(int)", "StringBuilder.length()", "StringBuilder.toString()", "Math.min(int,int)",
        "Math.min(long,long)", "Math.max(int,int)", "Math.max(long,long)", "Math.abs(int)");
    /** Rule 6. */
    private static final Set<String> THROWN = Set.of("IllegalStateException", "IllegalArgumentException",
        "IndexOutOfBoundsException");

    private final Trees trees;
    private final CompilationUnitTree unit;
    private final Map<String, Set<String>> calls = new HashMap<>();
    private int classes = 0;
    private int deepest = 0;
    private int looked = 0;
    private int wrong = 0;

    private LanguageTest(Trees trees, CompilationUnitTree unit) {
        this.trees = trees;
        this.unit = unit;
    }

    private void need(int rule, boolean isSo, String what, Tree at) {
        looked++;
        if (!isSo) {
            wrong++;
            long place = trees.getSourcePositions().getStartPosition(unit, at);
            System.out.println("LanguageTest: rule " + rule + ", line " + unit.getLineMap().getLineNumber(place)
                + ": " + what);
        }
    }

    private Element elementOf(Tree tree) {
        return trees.getElement(new TreePath(getCurrentPath(), tree));
    }

    private static boolean isOwn(Element element) {
        Element of = element;
        while (of.getEnclosingElement().getKind() != ElementKind.PACKAGE) {
            of = of.getEnclosingElement();
        }
        return of.getSimpleName().contentEquals("Bags");
    }

    private static String nameOf(Element method) {
        // The class that StringBuilder has some of its methods from cannot be named in a program.
        return method.getEnclosingElement().getSimpleName().toString().replace("AbstractString", "String") + "." + method;
    }

    /** The nearest tree around this place of that kind; null without one. */
    private <T> T around(Class<T> kind) {
        for (TreePath path = getCurrentPath().getParentPath(); path != null; path = path.getParentPath()) {
            if (kind.isInstance(path.getLeaf())) {
                return kind.cast(path.getLeaf());
            }
        }
        return null;
    }

    private boolean isInField() {
        return around(MethodTree.class) == null;
    }

    private boolean isInConstructor() {
        MethodTree method = around(MethodTree.class);
        return method != null && method.getName().contentEquals("<init>");
    }

    private boolean isConstant(Tree tree) {
        if (tree instanceof LiteralTree) {
            return true;
        }
        Element element = elementOf(tree);
        return element != null && element.getKind() == ElementKind.FIELD
            && element.getModifiers().containsAll(Set.of(Modifier.STATIC, Modifier.FINAL));
    }

    /** Whether what stands here is reached only where a condition around it has all these words. */
    private boolean isBehind(String... words) {
        Tree inner = getCurrentPath().getLeaf();
        for (TreePath path = getCurrentPath().getParentPath(); path != null; path = path.getParentPath()) {
            Tree tree = path.getLeaf();
            String known = "";
            if (tree instanceof IfTree one && inner == one.getThenStatement()) {
                known = one.getCondition().toString();
            } else if (tree instanceof ConditionalExpressionTree one && inner == one.getTrueExpression()) {
                known = one.getCondition().toString();
            } else if (tree instanceof ForLoopTree one && inner == one.getStatement()) {
                // A counter that starts at 0 and only rises is not below 0.
                known = one.getCondition() + one.getInitializer().toString().replaceAll("int (\\w+) = 0", "$1 >= 0");
            }
            if (!known.contains("||") && Arrays.stream(words).allMatch(known::contains)) {
                return true;
            }
            inner = tree;
        }
        return false;
    }

    @Override
    public Void scan(Tree tree, Void nothing) {
        if (tree != null) {
            need(10, KINDS.contains(tree.getKind()), "has " + tree.getKind() + ": " + tree, tree);
        }
        return super.scan(tree, nothing);
    }

    @Override
    public Void visitCompilationUnit(CompilationUnitTree tree, Void nothing) {
        need(1, tree.getPackageName() == null, "has a package", tree);
        need(4, tree.getImports().isEmpty(), "has imports", tree);
        need(1, tree.getTypeDecls().size() == 1, "has another class beside", tree);
        return super.visitCompilationUnit(tree, nothing);
    }

    @Override
    public Void visitClass(ClassTree tree, Void nothing) {
        classes++;
        Tree parent = getCurrentPath().getParentPath().getLeaf();
        Set<Modifier> modifiers = tree.getModifiers().getFlags();
        boolean isOuter = parent instanceof CompilationUnitTree;
        need(2, isOuter || parent instanceof ClassTree && modifiers.contains(Modifier.STATIC), "no nested class", tree);
        need(2, isOuter || !modifiers.contains(Modifier.PUBLIC), "a public class inside", tree);
        int fields = 0;
        for (Tree member : tree.getMembers()) {
            need(5, !(member instanceof BlockTree), "an initialiser block", member);
            boolean isKept = member instanceof VariableTree one && !one.getModifiers().getFlags().contains(Modifier.STATIC);
            fields += isKept ? 1 : 0;
        }
        need(11, fields <= 20, fields + " fields", tree);
        return super.visitClass(tree, nothing);
    }

    @Override
    public Void visitMethod(MethodTree tree, Void nothing) {
        Element method = trees.getElement(getCurrentPath());
        calls.putIfAbsent(nameOf(method), new TreeSet<>());
        LineMap lines = unit.getLineMap();
        long first = lines.getLineNumber(trees.getSourcePositions().getStartPosition(unit, tree));
        long last = lines.getLineNumber(trees.getSourcePositions().getEndPosition(unit, tree));
        need(11, last - first < 60, "a method of " + (last - first + 1) + " lines", tree);
        need(11, tree.getParameters().size() <= 7, "more than seven parameters", tree);
        need(6, !List.of("equals", "hashCode", "toString").contains(tree.getName().toString()), "an own one", tree);
        Tree type = tree.getReturnType();
        need(3, type == null || type.toString().equals("void") || TYPES.contains(type.toString()), "answers " + type, tree);
        return super.visitMethod(tree, nothing);
    }

    @Override
    public Void visitVariable(VariableTree tree, Void nothing) {
        String type = tree.getType().toString();
        need(3, TYPES.contains(type), "a variable of " + type, tree);
        Set<Modifier> modifiers = tree.getModifiers().getFlags();
        if (modifiers.contains(Modifier.STATIC)) {
            need(5, modifiers.contains(Modifier.FINAL), "a static field that is not final", tree);
            need(5, Set.of("int", "long", "boolean", "char", "String").contains(type), "a static " + type, tree);
        }
        return super.visitVariable(tree, nothing);
    }

    @Override
    public Void visitIdentifier(IdentifierTree tree, Void nothing) {
        needOwnField(tree);
        boolean isWhole = tree.getName().contentEquals("this")
            && !(getCurrentPath().getParentPath().getLeaf() instanceof MemberSelectTree);
        need(12, !isWhole || !isInConstructor() && !isInField(), "a constructor hands out this", tree);
        return super.visitIdentifier(tree, nothing);
    }

    @Override
    public Void visitMemberSelect(MemberSelectTree tree, Void nothing) {
        needOwnField(tree);
        return super.visitMemberSelect(tree, nothing);
    }

    private void needOwnField(Tree tree) {
        Element element = trees.getElement(getCurrentPath());
        if (element != null && element.getKind() == ElementKind.FIELD) {
            boolean isOfArray = element.getEnclosingElement().getSimpleName().contentEquals("Array");
            need(4, isOfArray || isOwn(element), "a field of the library: " + tree, tree);
        }
    }

    @Override
    public Void visitMethodInvocation(MethodInvocationTree tree, Void nothing) {
        Element called = trees.getElement(getCurrentPath());
        boolean isSuper = tree.getMethodSelect().toString().equals("super");
        if (!isSuper) {
            need(12, !isInField() && !isInConstructor(), "a constructor calls " + tree, tree);
            need(4, isOwn(called) || LIBRARY.contains(nameOf(called)), "calls " + nameOf(called), tree);
        }
        if (!isSuper && !isInField() && isOwn(called)) {
            Element caller = trees.getElement(trees.getPath(unit, around(MethodTree.class)));
            calls.computeIfAbsent(nameOf(caller), name -> new TreeSet<>()).add(nameOf(called));
        }
        return super.visitMethodInvocation(tree, nothing);
    }

    @Override
    public Void visitNewClass(NewClassTree tree, Void nothing) {
        boolean isThrown = getCurrentPath().getParentPath().getLeaf() instanceof ThrowTree;
        need(12, isThrown || isInField(), "made by a call: " + tree, tree);
        need(3, isThrown || TYPES.contains(tree.getIdentifier().toString()), "makes " + tree, tree);
        for (ExpressionTree argument : tree.getArguments()) {
            need(12, isThrown || isConstant(argument), "a part of what is being made is handed out: " + tree, tree);
        }
        return super.visitNewClass(tree, nothing);
    }

    @Override
    public Void visitNewArray(NewArrayTree tree, Void nothing) {
        need(12, isInField(), "made by a call: " + tree, tree);
        need(7, tree.getDimensions().size() == 1 && isConstant(tree.getDimensions().get(0)), "of which length: " + tree, tree);
        need(3, tree.getType().toString().equals("int"), "an array of " + tree.getType(), tree);
        return super.visitNewArray(tree, nothing);
    }

    @Override
    public Void visitThrow(ThrowTree tree, Void nothing) {
        boolean isPlain = tree.getExpression() instanceof NewClassTree made
            && THROWN.contains(made.getIdentifier().toString())
            && (made.getArguments().isEmpty() || made.getArguments().size() == 1
                && made.getArguments().get(0).getKind() == Tree.Kind.STRING_LITERAL);
        need(6, isPlain, "throws " + tree.getExpression(), tree);
        need(6, !isInConstructor(), "a throw in a constructor", tree);
        return super.visitThrow(tree, nothing);
    }

    @Override
    public Void visitLiteral(LiteralTree tree, Void nothing) {
        Object value = tree.getValue();
        String signs = value instanceof String || value instanceof Character ? value.toString() : "";
        need(4, signs.chars().allMatch(sign -> sign >= 1 && sign <= 127), "signs that are not plain", tree);
        return super.visitLiteral(tree, nothing);
    }

    @Override
    public Void visitArrayAccess(ArrayAccessTree tree, Void nothing) {
        String index = tree.getIndex().toString();
        boolean isLooked = isBehind(index + " >= 0", index + " < " + tree.getExpression() + ".length");
        need(7, isLooked, "an index that is not looked at: " + tree, tree);
        return super.visitArrayAccess(tree, nothing);
    }

    @Override
    public Void visitBinary(BinaryTree tree, Void nothing) {
        if (tree.getKind() == Tree.Kind.DIVIDE) {
            String by = tree.getRightOperand().toString();
            boolean isLooked = around(ConditionalExpressionTree.class) != null
                && around(ConditionalExpressionTree.class).getCondition().toString().equals(by + " == 0")
                && around(ConditionalExpressionTree.class).getFalseExpression() == tree;
            need(7, isLooked || by.matches("[1-9][0-9]*"), "a divisor that is not looked at: " + tree, tree);
        }
        if (tree.getKind() == Tree.Kind.PLUS) {
            String type = trees.getTypeMirror(getCurrentPath()).toString();
            need(10, type.equals("int") || type.equals("long"), "a text joined by +: " + tree, tree);
        }
        return super.visitBinary(tree, nothing);
    }

    @Override
    public Void visitTypeCast(TypeCastTree tree, Void nothing) {
        need(7, tree.getType() instanceof PrimitiveTypeTree, "a cast to " + tree.getType(), tree);
        return super.visitTypeCast(tree, nothing);
    }

    @Override
    public Void visitForLoop(ForLoopTree tree, Void nothing) {
        String update = tree.getUpdate().toString();
        String counter = update.replaceAll("\\W", "");
        boolean isRising = update.equals(counter + "++;") || update.equals(counter + "++");
        boolean isFalling = update.equals(counter + "--;") || update.equals(counter + "--");
        String condition = tree.getCondition() == null ? "" : tree.getCondition().toString();
        boolean isBounded = isRising && condition.startsWith(counter + " <") || isFalling && condition.startsWith(counter + " >");
        // With "or" on its outer level the bound would not bind.
        need(9, isBounded && !condition.replaceAll("[(].*[)]", "").contains(" || "), "which end: " + condition, tree);
        need(9, !tree.getStatement().toString().matches("(?s).*\\b" + counter + "( [-+*/]?= |\\+\\+|--).*"),
            "the counter is written: " + counter, tree);
        return super.visitForLoop(tree, nothing);
    }

    /** How many calls stand open at most, with this one; far too many, if a method calls itself by any way. */
    private int depth(String method, Set<String> open) {
        if (!open.add(method)) {
            return 1000;
        }
        int most = 0;
        for (String called : calls.getOrDefault(method, Set.of())) {
            most = Math.max(most, depth(called, open));
        }
        open.remove(method);
        return most + 1;
    }

    private void finish() {
        need(11, classes <= 12, classes + " classes", unit);
        for (String method : calls.keySet()) {
            int depth = depth(method, new HashSet<>());
            deepest = Math.max(deepest, depth);
            need(11, depth <= MOST_DEPTH, method + " calls " + depth + " deep", unit);
        }
        need(11, calls.size() > 100 && deepest > 4, "the calls were not found", unit);
    }

    public static void main(String[] arguments) throws IOException {
        JavaCompiler compiler = ToolProvider.getSystemJavaCompiler();
        StandardJavaFileManager files = compiler.getStandardFileManager(null, null, null);
        File source = new File(arguments.length > 0 ? arguments[0] : DUE);
        JavacTask task = (JavacTask) compiler.getTask(null, files, null, List.of("-proc:none"), null,
            files.getJavaFileObjects(source));
        CompilationUnitTree unit = task.parse().iterator().next();
        task.analyze();
        LanguageTest test = new LanguageTest(Trees.instance(task), unit);
        test.scan(new TreePath(unit), null);
        test.finish();
        System.out.println("LanguageTest: calls go " + test.deepest + " deep at most, " + test.looked + " looks, " + test.wrong + " not as due");
        if (test.wrong > 0) {
            System.exit(1);
        }
    }
}
