import com.sun.source.tree.*;
import com.sun.source.util.JavacTask;
import com.sun.source.util.TreeScanner;
import java.nio.file.Files;
import java.nio.file.Path;
import java.util.ArrayDeque;
import java.util.Deque;
import java.util.HashMap;
import java.util.HashSet;
import java.util.List;
import java.util.Map;
import java.util.Set;
import javax.lang.model.element.Modifier;
import javax.tools.JavaCompiler;
import javax.tools.StandardJavaFileManager;
import javax.tools.ToolProvider;

/** The rules of LANGUAGE.md, as far as they can be seen in the source's tree. */
public final class LanguageTest extends TreeScanner<Void, Void> {
    private static final Path SOURCE = Path.of("src/main/java/RankRings.java");
    private static final Set<String> LIBRARY = Set.of("Integer.bitCount", "Integer.numberOfTrailingZeros",
        "Math.max");
    private static final Set<String> TYPES = Set.of("int", "boolean", "char", "void", "int[]", "char[]",
        "Field[]", "Field", "Text", "Solver");
    private static final Set<Tree.Kind> FORBIDDEN = Set.of(Tree.Kind.THROW, Tree.Kind.TRY, Tree.Kind.CATCH,
        Tree.Kind.SYNCHRONIZED, Tree.Kind.ASSERT, Tree.Kind.LAMBDA_EXPRESSION, Tree.Kind.MEMBER_REFERENCE,
        Tree.Kind.IMPORT, Tree.Kind.PACKAGE, Tree.Kind.ANNOTATION, Tree.Kind.STRING_LITERAL,
        Tree.Kind.WHILE_LOOP, Tree.Kind.DO_WHILE_LOOP, Tree.Kind.SWITCH_EXPRESSION, Tree.Kind.DIVIDE,
        Tree.Kind.INSTANCE_OF);

    private final Set<String> publicMethods = new HashSet<>();
    private final Deque<String> classes = new ArrayDeque<>();
    private final Deque<String> methods = new ArrayDeque<>();
    private final Map<String, Set<String>> calls = new HashMap<>();
    private int classCount = 0;
    private static int faults = 0;

    public static void main(String[] args) throws Exception {
        String source = Files.readString(SOURCE);
        for (int i = 0; i < source.length(); i++) {
            check(source.charAt(i) == '\n' || source.charAt(i) >= 32 && source.charAt(i) < 127, "sign at " + i);
        }
        JavaCompiler compiler = ToolProvider.getSystemJavaCompiler();
        try (StandardJavaFileManager files = compiler.getStandardFileManager(null, null, null)) {
            JavacTask task = (JavacTask) compiler.getTask(null, files, null, List.of("--release", "17"), null,
                files.getJavaFileObjects(SOURCE));
            for (CompilationUnitTree unit : task.parse()) {
                check(unit.getTypeDecls().size() == 1, "one class in the file");
                LanguageTest test = new LanguageTest();
                test.collectPublic((ClassTree) unit.getTypeDecls().get(0));
                test.scan(unit, null);
                check(test.classCount <= 12, "number of classes");
                test.checkDepths();
                checkLengths(source);
            }
        }
        System.out.println("language: " + (faults == 0 ? "as due" : faults + " faults"));
        if (faults > 0) {
            System.exit(1);
        }
    }

    private static void check(boolean good, String what) {
        if (!good) {
            faults++;
            System.out.println("language: " + what);
        }
    }

    private void collectPublic(ClassTree type) {
        for (Tree member : type.getMembers()) {
            if (member instanceof MethodTree method && method.getReturnType() != null
                && method.getModifiers().getFlags().contains(Modifier.PUBLIC)) {
                publicMethods.add(method.getName().toString());
            }
        }
    }

    /** By indentation: a member of a class stands at 4 or 8 blanks and ends with its brace there. */
    private static void checkLengths(String source) {
        int start = 0;
        int number = 0;
        for (String line : source.split("\n")) {
            number++;
            check(line.length() <= 120, "length of line " + number);
            if (line.matches("( {4}| {8})[a-zA-Z].*\\{")) {
                start = number;
            }
            if (line.matches(" {4}\\}| {8}\\}") && !line.isEmpty()) {
                check(number - start <= 60, "length of the method at line " + start);
            }
        }
    }

    @Override
    public Void scan(Tree tree, Void nothing) {
        if (tree != null) {
            check(!FORBIDDEN.contains(tree.getKind()), tree.getKind() + ": " + tree);
        }
        return super.scan(tree, nothing);
    }

    @Override
    public Void visitClass(ClassTree type, Void nothing) {
        classCount++;
        String name = type.getSimpleName().toString();
        Set<Modifier> flags = type.getModifiers().getFlags();
        boolean outer = classes.isEmpty();
        check(flags.contains(Modifier.FINAL) && flags.contains(outer ? Modifier.PUBLIC : Modifier.STATIC),
            "class " + name);
        check(methods.isEmpty(), "local class " + name);
        int fields = 0;
        for (Tree member : type.getMembers()) {
            check(member.getKind() != Tree.Kind.BLOCK, "initialiser block in " + name);
            if (member instanceof VariableTree field) {
                boolean constant = field.getModifiers().getFlags().contains(Modifier.STATIC);
                fields += constant ? 0 : 1;
                checkField(field, outer);
            }
        }
        check(fields <= 20, "fields of " + name);
        classes.push(name);
        super.visitClass(type, nothing);
        classes.pop();
        return null;
    }

    private static void checkField(VariableTree field, boolean outer) {
        Set<Modifier> flags = field.getModifiers().getFlags();
        if (flags.contains(Modifier.STATIC)) {
            check(flags.contains(Modifier.FINAL) && field.getInitializer() != null, "constant " + field);
        } else {
            check(!outer || flags.contains(Modifier.PRIVATE), "visible field " + field);
        }
    }

    @Override
    public Void visitMethod(MethodTree method, Void nothing) {
        String name = method.getName().toString();
        check(method.getParameters().size() <= 7, "parameters of " + name);
        boolean isPublic = method.getModifiers().getFlags().contains(Modifier.PUBLIC);
        boolean ofOuter = classes.size() == 1;
        check(isPublic == (ofOuter && (publicMethods.contains(name) || name.equals("<init>"))) || !ofOuter
            || method.getModifiers().getFlags().contains(Modifier.PRIVATE), "visible method " + name);
        check(ofOuter && isPublic || !publicMethods.contains(name), "name of a public method: " + name);
        check(!Set.of("equals", "hashCode", "toString").contains(name), name);
        methods.push(name);
        super.visitMethod(method, nothing);
        methods.pop();
        return null;
    }

    @Override
    public Void visitMethodInvocation(MethodInvocationTree call, Void nothing) {
        String text = call.getMethodSelect().toString();
        if (!methods.isEmpty()) {
            calls.computeIfAbsent(methods.peek(), name -> new HashSet<>())
                .add(text.substring(text.lastIndexOf('.') + 1));
        }
        return super.visitMethodInvocation(call, nothing);
    }

    private void checkDepths() {
        for (String name : publicMethods) {
            int depth = depth(name, new HashSet<>());
            check(depth <= 8, "calls of " + name + " go " + depth + " deep");
        }
    }

    /** How many calls stand open at once, but for recursion; methods of one name are taken for one. */
    private int depth(String name, Set<String> open) {
        if (!open.add(name)) {
            return 0;
        }
        int deepest = 0;
        for (String called : calls.getOrDefault(name, Set.of())) {
            deepest = Math.max(deepest, depth(called, open));
        }
        open.remove(name);
        return deepest + 1;
    }

    @Override
    public Void visitVariable(VariableTree variable, Void nothing) {
        check(TYPES.contains(String.valueOf(variable.getType())), "type " + variable.getType());
        return super.visitVariable(variable, nothing);
    }

    @Override
    public Void visitForLoop(ForLoopTree loop, Void nothing) {
        check(loop.getCondition() != null && loop.getUpdate().size() == 1, "loop without a bound: " + loop);
        return super.visitForLoop(loop, nothing);
    }

    @Override
    public Void visitNewClass(NewClassTree made, Void nothing) {
        check(made.getClassBody() == null, "anonymous class");
        check("<init>".equals(methods.peek()), "an object made outside a constructor: " + made);
        return super.visitNewClass(made, nothing);
    }

    @Override
    public Void visitNewArray(NewArrayTree made, Void nothing) {
        check("<init>".equals(methods.peek()), "an array made outside a constructor: " + made);
        return super.visitNewArray(made, nothing);
    }

    @Override
    public Void visitMemberSelect(MemberSelectTree select, Void nothing) {
        String text = select.toString();
        if (text.startsWith("Integer.") || text.startsWith("Math.") || text.startsWith("System.")
            || text.startsWith("java.")) {
            check(LIBRARY.contains(text), "library " + text);
        }
        return super.visitMemberSelect(select, nothing);
    }
}
