import com.sun.source.tree.BlockTree;
import com.sun.source.tree.ClassTree;
import com.sun.source.tree.CompilationUnitTree;
import com.sun.source.tree.IdentifierTree;
import com.sun.source.tree.MemberSelectTree;
import com.sun.source.tree.MethodInvocationTree;
import com.sun.source.tree.MethodTree;
import com.sun.source.tree.ModifiersTree;
import com.sun.source.tree.PrimitiveTypeTree;
import com.sun.source.tree.Tree;
import com.sun.source.tree.TypeCastTree;
import com.sun.source.tree.VariableTree;
import com.sun.source.util.JavacTask;
import com.sun.source.util.TreeScanner;
import java.io.IOException;
import java.io.InputStream;
import java.nio.charset.StandardCharsets;
import java.nio.file.Path;
import java.util.EnumSet;
import java.util.LinkedHashMap;
import java.util.List;
import java.util.Map;
import java.util.Set;
import java.util.TreeSet;
import java.util.regex.Matcher;
import java.util.regex.Pattern;
import javax.lang.model.element.Modifier;
import javax.lang.model.type.TypeKind;
import javax.tools.JavaCompiler;
import javax.tools.StandardJavaFileManager;
import javax.tools.ToolProvider;

/**
 * The limits that "The public face" sets on the source of the class, read from
 * the tree that the compiler makes of it, and rule 10 of LANGUAGE.md but for the
 * length of methods.
 */
public final class SourceLimitsTest {
    private static final Check CHECK = new Check();

    private static final Path SOURCE = Path.of("src/main/java/FracDivider.java");

    // The document allows arrays made at the start, but three char fields need
    // none, so nothing at all is created.
    private static final Set<Tree.Kind> FORBIDDEN = EnumSet.of(
        Tree.Kind.CLASS, Tree.Kind.INTERFACE, Tree.Kind.ENUM, Tree.Kind.RECORD, Tree.Kind.ANNOTATION_TYPE,
        Tree.Kind.THROW, Tree.Kind.TRY, Tree.Kind.CATCH, Tree.Kind.ASSERT, Tree.Kind.SYNCHRONIZED,
        Tree.Kind.INSTANCE_OF, Tree.Kind.LAMBDA_EXPRESSION, Tree.Kind.MEMBER_REFERENCE,
        Tree.Kind.NEW_CLASS, Tree.Kind.NEW_ARRAY, Tree.Kind.ARRAY_TYPE, Tree.Kind.PARAMETERIZED_TYPE,
        Tree.Kind.NULL_LITERAL, Tree.Kind.STRING_LITERAL, Tree.Kind.FLOAT_LITERAL, Tree.Kind.DOUBLE_LITERAL);

    private static final int DEEPEST = 6;
    private static final int MOST_PARAMETERS = 7;

    public static void main(String[] args) throws IOException {
        CompilationUnitTree unit = parse();
        ClassTree program = onlyClass(unit);
        new Limits().scan(program.getModifiers(), null);
        new Limits().scan(program.getMembers(), null);
        hasNoInitialiserBlock(program);
        Map<String, Set<String>> calls = callsOfEachMethod(program);
        callsOnlyItsOwnMethods(calls);
        callsGoNeitherRoundNorDeep(calls);
        compilesToNothingElse();
        CHECK.finish();
    }

    private static CompilationUnitTree parse() throws IOException {
        JavaCompiler compiler = ToolProvider.getSystemJavaCompiler();
        try (StandardJavaFileManager files = compiler.getStandardFileManager(null, null, null)) {
            JavacTask task = (JavacTask) compiler.getTask(null, files, null, null, null, files.getJavaFileObjects(SOURCE));
            return task.parse().iterator().next();
        }
    }

    private static ClassTree onlyClass(CompilationUnitTree unit) {
        CHECK.holds("no package line", unit.getPackage() == null);
        CHECK.holds("nothing is imported", unit.getImports().isEmpty());
        CHECK.due("classes in the file", unit.getTypeDecls().size(), 1);
        return (ClassTree) unit.getTypeDecls().get(0);
    }

    private static List<MethodTree> methods(ClassTree program) {
        return program.getMembers().stream()
            .filter(MethodTree.class::isInstance).map(MethodTree.class::cast).toList();
    }

    /** Looks at each part of the source by itself. */
    private static final class Limits extends TreeScanner<Void, Void> {
        @Override
        public Void scan(Tree part, Void nothing) {
            if (part != null) {
                CHECK.holds("'" + part + "' is not allowed", !FORBIDDEN.contains(part.getKind()));
            }
            return super.scan(part, nothing);
        }

        @Override
        public Void visitModifiers(ModifiersTree part, Void nothing) {
            Set<Modifier> flags = part.getFlags();
            CHECK.holds("'" + part + "' is without synchronized", !flags.contains(Modifier.SYNCHRONIZED));
            CHECK.holds("'" + part + "' is without native", !flags.contains(Modifier.NATIVE));
            CHECK.holds("'" + part + "' has no annotation", part.getAnnotations().isEmpty());
            return super.visitModifiers(part, nothing);
        }

        @Override
        public Void visitPrimitiveType(PrimitiveTypeTree part, Void nothing) {
            TypeKind kind = part.getPrimitiveTypeKind();
            CHECK.holds("no " + part, kind != TypeKind.FLOAT && kind != TypeKind.DOUBLE);
            return super.visitPrimitiveType(part, nothing);
        }

        @Override
        public Void visitVariable(VariableTree part, Void nothing) {
            CHECK.holds("'" + part + "' is of a number type", part.getType() instanceof PrimitiveTypeTree);
            return super.visitVariable(part, nothing);
        }

        @Override
        public Void visitTypeCast(TypeCastTree part, Void nothing) {
            CHECK.holds("'" + part + "' is a cast to a number type", part.getType() instanceof PrimitiveTypeTree);
            return super.visitTypeCast(part, nothing);
        }

        // Past a dot stands only a member of this object; another class would be named there.
        @Override
        public Void visitMemberSelect(MemberSelectTree part, Void nothing) {
            CHECK.holds("'" + part + "' is a member of this", part.getExpression().toString().equals("this"));
            return super.visitMemberSelect(part, nothing);
        }

        @Override
        public Void visitMethod(MethodTree part, Void nothing) {
            int parameters = part.getParameters().size();
            CHECK.holds(part.getName() + " has few parameters, not " + parameters, parameters <= MOST_PARAMETERS);
            CHECK.holds(part.getName() + " declares no throw", part.getThrows().isEmpty());
            return super.visitMethod(part, nothing);
        }

        @Override
        public Void visitMethodInvocation(MethodInvocationTree part, Void nothing) {
            for (Tree argument : part.getArguments()) {
                CHECK.holds("'" + part + "' has no call in its arguments", callsIn(argument).isEmpty());
            }
            return super.visitMethodInvocation(part, nothing);
        }
    }

    private static void hasNoInitialiserBlock(ClassTree program) {
        for (Tree member : program.getMembers()) {
            CHECK.holds("'" + member + "' is no initialiser block", !(member instanceof BlockTree));
        }
    }

    private static Set<String> callsIn(Tree part) {
        Set<String> calls = new TreeSet<>();
        new TreeScanner<Void, Void>() {
            @Override
            public Void visitMethodInvocation(MethodInvocationTree call, Void nothing) {
                Tree select = call.getMethodSelect();
                boolean plain = select instanceof IdentifierTree;
                calls.add(plain ? select.toString() : ((MemberSelectTree) select).getIdentifier().toString());
                return super.visitMethodInvocation(call, nothing);
            }
        }.scan(part, null);
        return calls;
    }

    // A call is known by its name alone, so no two methods may share one.
    private static Map<String, Set<String>> callsOfEachMethod(ClassTree program) {
        Map<String, Set<String>> calls = new LinkedHashMap<>();
        for (MethodTree method : methods(program)) {
            String name = method.getName().toString();
            CHECK.holds("only one method is named " + name, !calls.containsKey(name));
            calls.put(name, callsIn(method.getBody()));
        }
        return calls;
    }

    private static void callsOnlyItsOwnMethods(Map<String, Set<String>> calls) {
        for (String caller : calls.keySet()) {
            for (String called : calls.get(caller)) {
                CHECK.holds(called + ", called by " + caller + ", is a method of the class", calls.containsKey(called));
            }
        }
    }

    // Calls that go round are recursion: they would never stop getting deeper.
    private static void callsGoNeitherRoundNorDeep(Map<String, Set<String>> calls) {
        for (String method : calls.keySet()) {
            Set<String> reached = Set.of(method);
            for (int depth = 1; depth < DEEPEST; depth++) {
                reached = calledBy(reached, calls);
                CHECK.holds(method + " does not lead back to itself", !reached.contains(method));
            }
            CHECK.holds(method + " has calls at most " + DEEPEST + " deep", calledBy(reached, calls).isEmpty());
        }
    }

    private static Set<String> calledBy(Set<String> callers, Map<String, Set<String>> calls) {
        Set<String> called = new TreeSet<>();
        for (String caller : callers) {
            called.addAll(calls.getOrDefault(caller, Set.of()));
        }
        return called;
    }

    // What the source may hide the compiler writes out: <clinit> stands for a
    // static initialiser or a static field that is not a compile-time constant.
    private static void compilesToNothingElse() throws IOException {
        String compiled;
        try (InputStream in = FracDivider.class.getResourceAsStream("FracDivider.class")) {
            compiled = new String(in.readAllBytes(), StandardCharsets.ISO_8859_1);
        }
        CHECK.holds("static fields are compile-time constants", !compiled.contains("<clinit>"));
        Matcher library = Pattern.compile("java/[A-Za-z/]+").matcher(compiled);
        while (library.find()) {
            CHECK.holds("the library class " + library.group() + " is only Object, which every class extends",
                library.group().equals("java/lang/Object"));
        }
    }
}
