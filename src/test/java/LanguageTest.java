import com.sun.source.tree.ClassTree;
import com.sun.source.tree.CompilationUnitTree;
import com.sun.source.tree.IdentifierTree;
import com.sun.source.tree.MemberSelectTree;
import com.sun.source.tree.MethodInvocationTree;
import com.sun.source.tree.MethodTree;
import com.sun.source.tree.NewArrayTree;
import com.sun.source.tree.Tree;
import com.sun.source.tree.VariableTree;
import com.sun.source.util.JavacTask;
import com.sun.source.util.TreeScanner;
import com.sun.source.util.Trees;
import java.nio.file.Path;
import java.util.EnumSet;
import java.util.List;
import java.util.Map;
import java.util.Set;
import java.util.TreeMap;
import java.util.TreeSet;
import javax.lang.model.element.Modifier;
import javax.tools.JavaCompiler;
import javax.tools.StandardJavaFileManager;
import javax.tools.ToolProvider;

/** The rules of LANGUAGE.md that can be seen in the program's syntax tree. */
public final class LanguageTest extends TreeScanner<Void, Void> {
    private static final Path PROGRAM = Path.of("src/main/java/RegionMap.java");
    private static final Set<String> TYPES = Set.of("int", "long", "short", "byte", "char", "boolean",
        "int[]", "long[]", "short[]", "byte[]", "char[]", "boolean[]");
    private static final Set<Tree.Kind> FORBIDDEN = EnumSet.of(
        Tree.Kind.THROW, Tree.Kind.TRY, Tree.Kind.CATCH, Tree.Kind.SYNCHRONIZED, Tree.Kind.ASSERT,
        Tree.Kind.INSTANCE_OF, Tree.Kind.LAMBDA_EXPRESSION, Tree.Kind.MEMBER_REFERENCE, Tree.Kind.NEW_CLASS,
        Tree.Kind.NULL_LITERAL, Tree.Kind.STRING_LITERAL, Tree.Kind.FLOAT_LITERAL, Tree.Kind.DOUBLE_LITERAL,
        Tree.Kind.IMPORT, Tree.Kind.PACKAGE, Tree.Kind.INTERFACE, Tree.Kind.ENUM, Tree.Kind.RECORD,
        Tree.Kind.ANNOTATION, Tree.Kind.ANNOTATION_TYPE);

    private final Check check = new Check("LANGUAGE.md");
    private final CompilationUnitTree unit;
    private final Trees trees;
    private final Map<String, Set<String>> calls = new TreeMap<>();
    private int classes = 0;
    private int fields = 0;
    private String method = "";

    private LanguageTest(CompilationUnitTree unit, Trees trees) {
        this.unit = unit;
        this.trees = trees;
    }

    public static void main(String[] args) throws Exception {
        JavaCompiler compiler = ToolProvider.getSystemJavaCompiler();
        try (StandardJavaFileManager files = compiler.getStandardFileManager(null, null, null)) {
            JavacTask task = (JavacTask) compiler.getTask(null, files, null, List.of(), null,
                files.getJavaFileObjects(PROGRAM));
            CompilationUnitTree unit = task.parse().iterator().next();
            LanguageTest test = new LanguageTest(unit, Trees.instance(task));
            test.scan(unit, null);
            test.closing();
        }
    }

    private void closing() {
        check.due("rule 1: classes", classes, 1);
        if (fields > 40) {
            wrong("rule 10: " + fields + " fields beside the constants");
        }
        for (String name : calls.keySet()) {
            // A circle of calls never gets shorter, so it shows as too deep too.
            if (depth(name, 0) > 6) {
                wrong("rules 8 and 10: calls from " + name + " go more than six deep or in a circle");
            }
        }
        check.end();
    }

    private void wrong(String what) {
        check.due(what, 1, 0);
    }

    private int depth(String name, int above) {
        int deepest = 1;
        for (String called : above > 6 ? Set.<String>of() : calls.getOrDefault(name, Set.of())) {
            deepest = Math.max(deepest, 1 + depth(called, above + 1));
        }
        return deepest;
    }

    @Override
    public Void scan(Tree tree, Void none) {
        if (tree != null && FORBIDDEN.contains(tree.getKind())) {
            wrong("rules 1 to 6: a " + tree.getKind() + " in " + method);
        }
        return super.scan(tree, none);
    }

    @Override
    public Void visitClass(ClassTree tree, Void none) {
        classes++;
        Set<String> publics = new TreeSet<>();
        Set<String> privates = new TreeSet<>();
        for (Tree member : tree.getMembers()) {
            if (member instanceof MethodTree m) {
                boolean hidden = m.getModifiers().getFlags().contains(Modifier.PRIVATE);
                (hidden ? privates : publics).add(m.getName().toString());
            } else if (member instanceof VariableTree field) {
                field(field);
            } else {
                wrong("rules 1 and 5: a " + member.getKind() + " in the class");
            }
        }
        privates.retainAll(publics);
        check.due("rule 1: private methods that bear a public name", privates.toString(), "[]");
        return super.visitClass(tree, none);
    }

    private void field(VariableTree field) {
        if (!field.getModifiers().getFlags().contains(Modifier.STATIC)) {
            fields++;
            return;
        }
        String type = field.getType().toString();
        boolean constant = field.getModifiers().getFlags().contains(Modifier.FINAL)
            && (type.equals("int") || type.equals("long"));
        if (!constant) {
            wrong("rule 5: the static field " + field.getName());
        }
    }

    @Override
    public Void visitMethod(MethodTree tree, Void none) {
        method = tree.getName().toString();
        calls.computeIfAbsent(method, name -> new TreeSet<>());
        if (tree.getParameters().size() > 7) {
            wrong("rule 10: the parameters of " + method);
        }
        long lines = line(trees.getSourcePositions().getEndPosition(unit, tree))
            - line(trees.getSourcePositions().getStartPosition(unit, tree)) + 1;
        if (lines > 60) {
            wrong("rule 10: the lines of " + method);
        }
        String type = tree.getReturnType() == null ? "void" : tree.getReturnType().toString();
        if (!type.equals("void") && (type.endsWith("[]") || !TYPES.contains(type))) {
            wrong("rules 2 and 4: the answer of " + method);
        }
        super.visitMethod(tree, none);
        method = "";
        return null;
    }

    private long line(long position) {
        return unit.getLineMap().getLineNumber(position);
    }

    @Override
    public Void visitVariable(VariableTree tree, Void none) {
        if (tree.getType() == null || !TYPES.contains(tree.getType().toString())) {
            wrong("rule 2: the type of " + tree.getName());
        }
        return super.visitVariable(tree, none);
    }

    @Override
    public Void visitNewArray(NewArrayTree tree, Void none) {
        // Stricter than rule 4, which lets the constructor make arrays too.
        if (!method.isEmpty() || tree.getInitializers() != null) {
            wrong("rule 4: an array made in " + method);
        }
        return super.visitNewArray(tree, none);
    }

    @Override
    public Void visitMemberSelect(MemberSelectTree tree, Void none) {
        wrong("rule 3: " + tree + " in " + method);
        return super.visitMemberSelect(tree, none);
    }

    @Override
    public Void visitMethodInvocation(MethodInvocationTree tree, Void none) {
        if (tree.getMethodSelect() instanceof IdentifierTree name) {
            calls.get(method).add(name.getName().toString());
        } else {
            wrong("rule 3: the call " + tree);
        }
        for (Tree argument : tree.getArguments()) {
            Boolean calling = new CallFinder().scan(argument, null);
            if (calling != null) {
                wrong("rule 10: a call in the arguments of " + tree);
            }
        }
        return super.visitMethodInvocation(tree, none);
    }

    private static final class CallFinder extends TreeScanner<Boolean, Void> {
        @Override
        public Boolean visitMethodInvocation(MethodInvocationTree tree, Void none) {
            return true;
        }

        @Override
        public Boolean reduce(Boolean one, Boolean other) {
            return one != null ? one : other;
        }
    }
}
