import com.sun.source.tree.AssertTree;
import com.sun.source.tree.BlockTree;
import com.sun.source.tree.ClassTree;
import com.sun.source.tree.CompilationUnitTree;
import com.sun.source.tree.DoWhileLoopTree;
import com.sun.source.tree.EnhancedForLoopTree;
import com.sun.source.tree.ExpressionTree;
import com.sun.source.tree.ForLoopTree;
import com.sun.source.tree.IdentifierTree;
import com.sun.source.tree.InstanceOfTree;
import com.sun.source.tree.LambdaExpressionTree;
import com.sun.source.tree.LiteralTree;
import com.sun.source.tree.MemberReferenceTree;
import com.sun.source.tree.MemberSelectTree;
import com.sun.source.tree.MethodInvocationTree;
import com.sun.source.tree.MethodTree;
import com.sun.source.tree.NewArrayTree;
import com.sun.source.tree.NewClassTree;
import com.sun.source.tree.SynchronizedTree;
import com.sun.source.tree.ThrowTree;
import com.sun.source.tree.Tree;
import com.sun.source.tree.TryTree;
import com.sun.source.tree.TypeCastTree;
import com.sun.source.tree.VariableTree;
import com.sun.source.tree.WhileLoopTree;
import com.sun.source.util.JavacTask;
import com.sun.source.util.SourcePositions;
import com.sun.source.util.TreeScanner;
import com.sun.source.util.Trees;
import java.io.File;
import java.io.IOException;
import java.util.ArrayList;
import java.util.HashMap;
import java.util.HashSet;
import java.util.List;
import java.util.Map;
import java.util.Set;
import javax.lang.model.element.Modifier;
import javax.tools.JavaCompiler;
import javax.tools.StandardJavaFileManager;
import javax.tools.ToolProvider;

/**
 * The source keeps to LANGUAGE.md, as far as its tree shows it. Two rules are held more strictly
 * than they stand, because the class needs no more: arrays are made in fields' initialisers
 * alone (rule 4), and loops are counting for loops alone (rule 8). Of rule 7 (no call throws or
 * fails to end) the tree shows nothing: the other tests' wrong inputs are for it.
 */
public final class LanguageTest {
    private static final Set<String> NUMBERS = Set.of("int", "long", "short", "byte", "char", "boolean");
    private static final int MOST_PARAMETERS = 7;
    private static final int MOST_LINES = 60;
    private static final int MOST_DEPTH = 6;
    private static final int MOST_FIELDS = 40;

    private static int wrong = 0;
    private static CompilationUnitTree unit;
    private static SourcePositions positions;

    private static final Set<String> methodNames = new HashSet<>();
    private static final Set<String> constants = new HashSet<>();
    private static final Set<String> arrayFields = new HashSet<>();
    private static final Map<String, Set<String>> calls = new HashMap<>();

    public static void main(String[] args) throws IOException {
        String path = args.length > 0 ? args[0] : "src/main/java/BalloonShare.java";
        JavaCompiler compiler = ToolProvider.getSystemJavaCompiler();
        try (StandardJavaFileManager files = compiler.getStandardFileManager(null, null, null)) {
            JavacTask task = (JavacTask) compiler.getTask(null, files, null, null, null,
                    files.getJavaFileObjects(new File(path)));
            unit = task.parse().iterator().next();
            positions = Trees.instance(task).getSourcePositions();
            checkUnit();
        }
        System.out.println(wrong == 0 ? "the language is as due" : wrong + " breaches of the language's rules");
        if (wrong != 0) {
            System.exit(1);
        }
    }

    private static void breach(int rule, Tree tree, String text) {
        wrong++;
        System.out.println("rule " + rule + ", line " + lineOf(positions.getStartPosition(unit, tree)) + ": " + text);
    }

    private static long lineOf(long position) {
        return unit.getLineMap().getLineNumber(position);
    }

    private static void checkUnit() {
        if (unit.getPackageName() != null) {
            breach(1, unit, "a package line");
        }
        if (!unit.getImports().isEmpty()) {
            breach(3, unit, "an import");
        }
        if (unit.getTypeDecls().size() != 1 || !(unit.getTypeDecls().get(0) instanceof ClassTree)) {
            breach(1, unit, "not exactly one class");
            return;
        }
        ClassTree type = (ClassTree) unit.getTypeDecls().get(0);
        checkClass(type);
        collect(type);
        checkNames(type);
        for (Tree member : type.getMembers()) {
            checkMember(member);
        }
        checkCalls(type);
    }

    private static void checkClass(ClassTree type) {
        Set<Modifier> flags = type.getModifiers().getFlags();
        if (type.getKind() != Tree.Kind.CLASS || !flags.equals(Set.of(Modifier.PUBLIC, Modifier.FINAL))) {
            breach(1, type, "not a public final class");
        }
        if (!type.getSimpleName().contentEquals("BalloonShare")) {
            breach(1, type, "another class than the document's");
        }
        if (type.getExtendsClause() != null || !type.getImplementsClause().isEmpty()) {
            breach(3, type, "a class or interface that the class comes from");
        }
    }

    private static void collect(ClassTree type) {
        for (Tree member : type.getMembers()) {
            if (member instanceof MethodTree) {
                methodNames.add(((MethodTree) member).getName().toString());
            } else if (member instanceof VariableTree) {
                VariableTree field = (VariableTree) member;
                if (field.getModifiers().getFlags().contains(Modifier.STATIC)) {
                    constants.add(field.getName().toString());
                }
                if (field.getType().toString().endsWith("[]")) {
                    arrayFields.add(field.getName().toString());
                }
            }
        }
    }

    private static void checkNames(ClassTree type) {
        Set<String> publicNames = new HashSet<>();
        List<MethodTree> hidden = new ArrayList<>();
        int fields = 0;
        for (Tree member : type.getMembers()) {
            if (member instanceof MethodTree) {
                MethodTree method = (MethodTree) member;
                if (method.getModifiers().getFlags().contains(Modifier.PRIVATE)) {
                    hidden.add(method);
                } else {
                    publicNames.add(method.getName().toString());
                }
            } else if (member instanceof VariableTree
                    && !((VariableTree) member).getModifiers().getFlags().contains(Modifier.STATIC)) {
                fields++;
            }
        }
        for (MethodTree method : hidden) {
            if (publicNames.contains(method.getName().toString())) {
                breach(1, method, "a private method with a public one's name: " + method.getName());
            }
        }
        if (fields > MOST_FIELDS) {
            breach(10, type, fields + " fields");
        }
    }

    private static void checkMember(Tree member) {
        if (member instanceof BlockTree) {
            breach(5, member, "an initialiser block");
        } else if (member instanceof ClassTree) {
            breach(1, member, "a nested class");
        } else if (member instanceof VariableTree) {
            checkField((VariableTree) member);
        } else if (member instanceof MethodTree) {
            checkMethod((MethodTree) member);
        }
    }

    private static void checkField(VariableTree field) {
        Set<Modifier> flags = field.getModifiers().getFlags();
        String type = field.getType().toString();
        if (flags.contains(Modifier.STATIC)) {
            boolean number = type.equals("int") || type.equals("long");
            if (!number || !flags.contains(Modifier.FINAL) || field.getInitializer() == null) {
                breach(5, field, "a static field that is no constant of int or long: " + field.getName());
            }
        }
        if (type.endsWith("[]")) {
            if (!flags.contains(Modifier.FINAL)) {
                breach(4, field, "an array field that a method could assign to: " + field.getName());
            }
            checkNewArray(field);
        }
        new BodyScanner(field.getInitializer() instanceof NewArrayTree).scan(field, null);
    }

    private static void checkNewArray(VariableTree field) {
        if (!(field.getInitializer() instanceof NewArrayTree)) {
            breach(4, field, "an array that isn't made in its field's initialiser: " + field.getName());
            return;
        }
        NewArrayTree made = (NewArrayTree) field.getInitializer();
        boolean length = made.getInitializers() == null && made.getDimensions().size() == 1
                && isLengthNumber(made.getDimensions().get(0));
        if (!length) {
            breach(4, field, "an array's length that is no literal or constant: " + field.getName());
        }
    }

    private static boolean isLengthNumber(ExpressionTree length) {
        return length.getKind() == Tree.Kind.INT_LITERAL
                || length instanceof IdentifierTree && constants.contains(length.toString());
    }

    private static void checkMethod(MethodTree method) {
        if (method.getParameters().size() > MOST_PARAMETERS) {
            breach(10, method, "too many parameters: " + method.getName());
        }
        long lines = lineOf(positions.getEndPosition(unit, method)) - lineOf(positions.getStartPosition(unit, method)) + 1;
        if (lines > MOST_LINES) {
            breach(10, method, lines + " lines: " + method.getName());
        }
        Tree answer = method.getReturnType();
        if (answer != null && !answer.toString().equals("void") && !NUMBERS.contains(answer.toString())) {
            breach(2, method, "answers a " + answer + ": " + method.getName());
        }
        if (method.getModifiers().getFlags().contains(Modifier.SYNCHRONIZED)) {
            breach(6, method, "a synchronized method: " + method.getName());
        }
        if (!method.getThrows().isEmpty() || !method.getTypeParameters().isEmpty()) {
            breach(6, method, "throws or a type parameter: " + method.getName());
        }
        BodyScanner scanner = new BodyScanner(false);
        for (VariableTree parameter : method.getParameters()) {
            scanner.scan(parameter, null);
        }
        scanner.scan(method.getBody(), null);
        // The compiler's parser adds super() to a constructor: it is not in the source.
        scanner.called.remove("super");
        calls.put(method.getName().toString(), scanner.called);
    }

    private static void checkCalls(ClassTree type) {
        for (String start : calls.keySet()) {
            int depth = depthOf(start, new ArrayList<>(), type);
            if (depth > MOST_DEPTH) {
                breach(10, type, "calls " + depth + " deep from " + start);
            }
        }
    }

    private static int depthOf(String name, List<String> above, ClassTree type) {
        if (above.contains(name)) {
            breach(8, type, "recursion: " + above + " calls " + name);
            return 0;
        }
        above.add(name);
        int deepest = 0;
        for (String next : calls.getOrDefault(name, Set.of())) {
            deepest = Math.max(deepest, depthOf(next, above, type));
        }
        above.remove(above.size() - 1);
        return deepest + 1;
    }

    /** What may not stand anywhere in a field or a method. */
    private static final class BodyScanner extends TreeScanner<Void, Void> {
        final Set<String> called = new HashSet<>();
        private final boolean mayMakeArray;
        private int argumentDepth = 0;

        BodyScanner(boolean mayMakeArray) {
            this.mayMakeArray = mayMakeArray;
        }

        @Override
        public Void visitVariable(VariableTree variable, Void none) {
            String type = variable.getType() == null ? "var" : variable.getType().toString();
            String number = type.endsWith("[]") ? type.substring(0, type.length() - 2) : type;
            if (!NUMBERS.contains(number)) {
                breach(2, variable, "a variable of type " + type);
            }
            return scan(variable.getInitializer(), none);
        }

        @Override
        public Void visitMethodInvocation(MethodInvocationTree call, Void none) {
            String name = call.getMethodSelect().toString();
            String own = name.startsWith("this.") ? name.substring(5) : name;
            if (!methodNames.contains(own) && !name.equals("super")) {
                breach(3, call, "a call of a method that isn't the class's own: " + name);
            }
            if (argumentDepth > 0) {
                breach(10, call, "a call inside the arguments of another one: " + name);
            }
            called.add(own);
            argumentDepth++;
            scan(call.getArguments(), none);
            argumentDepth--;
            return null;
        }

        @Override
        public Void visitMemberSelect(MemberSelectTree select, Void none) {
            String owner = select.getExpression().toString();
            boolean length = select.getIdentifier().contentEquals("length")
                    && arrayFields.contains(owner.replace("this.", ""));
            if (!owner.equals("this") && !owner.equals("BalloonShare") && !length) {
                breach(3, select, "a name of another class: " + select);
            }
            return super.visitMemberSelect(select, none);
        }

        @Override
        public Void visitLiteral(LiteralTree literal, Void none) {
            switch (literal.getKind()) {
                case NULL_LITERAL:
                    breach(4, literal, "null");
                    break;
                case STRING_LITERAL:
                case FLOAT_LITERAL:
                case DOUBLE_LITERAL:
                    breach(2, literal, "a literal of a type that isn't used: " + literal);
                    break;
                default:
                    break;
            }
            return null;
        }

        @Override
        public Void visitNewArray(NewArrayTree made, Void none) {
            if (!mayMakeArray) {
                breach(4, made, "an array made outside a field's initialiser");
            }
            return super.visitNewArray(made, none);
        }

        @Override
        public Void visitNewClass(NewClassTree made, Void none) {
            breach(4, made, "an object made");
            return null;
        }

        @Override
        public Void visitClass(ClassTree type, Void none) {
            breach(1, type, "a nested class");
            return null;
        }

        @Override
        public Void visitTypeCast(TypeCastTree cast, Void none) {
            if (!NUMBERS.contains(cast.getType().toString())) {
                breach(6, cast, "a cast of a reference");
            }
            return super.visitTypeCast(cast, none);
        }

        @Override
        public Void visitForLoop(ForLoopTree loop, Void none) {
            if (loop.getCondition() == null || loop.getUpdate().isEmpty()) {
                breach(8, loop, "a for loop without a counter against a bound");
            }
            return super.visitForLoop(loop, none);
        }

        @Override
        public Void visitWhileLoop(WhileLoopTree loop, Void none) {
            breach(8, loop, "a while loop");
            return super.visitWhileLoop(loop, none);
        }

        @Override
        public Void visitDoWhileLoop(DoWhileLoopTree loop, Void none) {
            breach(8, loop, "a do loop");
            return super.visitDoWhileLoop(loop, none);
        }

        @Override
        public Void visitEnhancedForLoop(EnhancedForLoopTree loop, Void none) {
            breach(8, loop, "a for loop without a counter");
            return super.visitEnhancedForLoop(loop, none);
        }

        @Override
        public Void visitThrow(ThrowTree tree, Void none) {
            breach(6, tree, "throw");
            return super.visitThrow(tree, none);
        }

        @Override
        public Void visitTry(TryTree tree, Void none) {
            breach(6, tree, "try");
            return super.visitTry(tree, none);
        }

        @Override
        public Void visitSynchronized(SynchronizedTree tree, Void none) {
            breach(6, tree, "synchronized");
            return super.visitSynchronized(tree, none);
        }

        @Override
        public Void visitAssert(AssertTree tree, Void none) {
            breach(6, tree, "assert");
            return super.visitAssert(tree, none);
        }

        @Override
        public Void visitInstanceOf(InstanceOfTree tree, Void none) {
            breach(6, tree, "instanceof");
            return super.visitInstanceOf(tree, none);
        }

        @Override
        public Void visitLambdaExpression(LambdaExpressionTree tree, Void none) {
            breach(6, tree, "a lambda");
            return super.visitLambdaExpression(tree, none);
        }

        @Override
        public Void visitMemberReference(MemberReferenceTree tree, Void none) {
            breach(6, tree, "a method reference");
            return super.visitMemberReference(tree, none);
        }
    }
}
