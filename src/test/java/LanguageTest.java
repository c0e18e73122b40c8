import com.sun.source.tree.BlockTree;
import com.sun.source.tree.ClassTree;
import com.sun.source.tree.CompilationUnitTree;
import com.sun.source.tree.ExpressionTree;
import com.sun.source.tree.MethodInvocationTree;
import com.sun.source.tree.MethodTree;
import com.sun.source.tree.NewArrayTree;
import com.sun.source.tree.NewClassTree;
import com.sun.source.tree.Tree;
import com.sun.source.tree.TypeCastTree;
import com.sun.source.tree.VariableTree;
import com.sun.source.util.JavacTask;
import com.sun.source.util.TreePath;
import com.sun.source.util.TreePathScanner;
import com.sun.source.util.Trees;
import java.io.IOException;
import java.nio.file.Files;
import java.nio.file.Path;
import java.util.EnumSet;
import java.util.HashSet;
import java.util.List;
import java.util.Map;
import java.util.Set;
import java.util.TreeMap;
import java.util.TreeSet;
import javax.lang.model.element.Element;
import javax.lang.model.element.ElementKind;
import javax.lang.model.element.Modifier;
import javax.tools.JavaCompiler;
import javax.tools.StandardJavaFileManager;
import javax.tools.ToolProvider;

/** The rules of LANGUAGE.md, as far as they can be seen in the source as the compiler reads it. */
public final class LanguageTest {
    private static final Check CHECK = new Check();
    private static final Path SOURCE = Path.of("src/main/java/DeclarationHall.java");
    private static final int MOST_PARAMETERS = 7, MOST_ROWS = 60, MOST_DEPTH = 8, MOST_CLASSES = 12, MOST_FIELDS = 20;
    private static final Set<Tree.Kind> RULED_OUT = EnumSet.of(Tree.Kind.THROW, Tree.Kind.TRY, Tree.Kind.CATCH,
        Tree.Kind.SYNCHRONIZED, Tree.Kind.ASSERT, Tree.Kind.LAMBDA_EXPRESSION, Tree.Kind.MEMBER_REFERENCE,
        Tree.Kind.PACKAGE, Tree.Kind.ANNOTATION, Tree.Kind.UNION_TYPE, Tree.Kind.DOUBLE_LITERAL,
        Tree.Kind.FLOAT_LITERAL);
    private static final Set<String> LIBRARY = Set.of("String.length", "String.charAt", "Math.max", "Math.min",
        "Arrays.fill", "System.arraycopy");
    private static final Set<String> TYPES = Set.of("int", "long", "boolean", "void", "String", "int[]", "long[]");

    private final CompilationUnitTree file;
    private final Trees trees;
    private final Set<String> classes = new TreeSet<>();
    private final Map<String, Set<String>> calls = new TreeMap<>();

    private LanguageTest(CompilationUnitTree file, Trees trees) {
        this.file = file;
        this.trees = trees;
    }

    public static void main(String[] args) throws IOException {
        String source = Files.readString(SOURCE);
        CHECK.isTrue("rule 4: only Arrays is imported", source.lines().filter(row -> row.startsWith("import"))
            .allMatch(row -> row.equals("import java.util.Arrays;")));
        CHECK.isTrue("rule 4: signs are of 7 bits", source.chars().allMatch(sign -> sign < 128));
        JavaCompiler compiler = ToolProvider.getSystemJavaCompiler();
        try (StandardJavaFileManager files = compiler.getStandardFileManager(null, null, null)) {
            JavacTask task = (JavacTask) compiler.getTask(null, files, null, null, null,
                files.getJavaFileObjects(SOURCE));
            CompilationUnitTree file = task.parse().iterator().next();
            task.analyze();
            new LanguageTest(file, Trees.instance(task)).look();
        }
        CHECK.end();
    }

    private void look() {
        new ClassNames().scan(file, null);
        new Looker().scan(file, null);
        CHECK.isTrue("rule 11: " + classes.size() + " classes", classes.size() <= MOST_CLASSES);
        CHECK.isTrue("the calls were seen", calls.containsKey("DeclarationHall.declare"));
        for (String method : calls.keySet()) {
            int depth = depthOf(method, new HashSet<>());
            CHECK.isTrue("rule 11: calls from " + method + " go " + depth + " deep", depth <= MOST_DEPTH);
        }
    }

    /** How many calls stand open at once; a call that is open already would be a recursion (rule 8). */
    private int depthOf(String method, Set<String> open) {
        CHECK.isTrue("rule 8: " + method + " calls itself", open.add(method));
        int deepest = 0;
        for (String called : calls.getOrDefault(method, Set.of())) {
            if (!open.contains(called)) {
                deepest = Math.max(deepest, depthOf(called, open));
            } else {
                CHECK.isTrue("rule 8: " + method + " and " + called + " call one another", false);
            }
        }
        open.remove(method);
        return deepest + 1;
    }

    private final class ClassNames extends TreePathScanner<Void, Void> {
        @Override
        public Void visitClass(ClassTree type, Void none) {
            classes.add(type.getSimpleName().toString());
            return super.visitClass(type, none);
        }
    }

    private final class Looker extends TreePathScanner<Void, Void> {
        private String method = "";
        private boolean isInConstructor;

        @Override
        public Void scan(Tree tree, Void none) {
            if (tree != null) {
                CHECK.isTrue("no " + tree.getKind() + ": " + tree, !RULED_OUT.contains(tree.getKind()));
            }
            return super.scan(tree, none);
        }

        @Override
        public Void visitClass(ClassTree type, Void none) {
            Tree around = getCurrentPath().getParentPath().getLeaf();
            boolean isOutermost = around instanceof CompilationUnitTree;
            CHECK.isTrue("rule 2: " + type.getSimpleName() + " is static and inside a class", isOutermost
                || around instanceof ClassTree && type.getModifiers().getFlags().contains(Modifier.STATIC));
            long fields = type.getMembers().stream()
                .filter(member -> member instanceof VariableTree field && !isStatic(field)).count();
            CHECK.isTrue("rule 11: " + type.getSimpleName() + " has " + fields + " fields", fields <= MOST_FIELDS);
            return super.visitClass(type, none);
        }

        @Override
        public Void visitBlock(BlockTree block, Void none) {
            boolean isInitialiser = getCurrentPath().getParentPath().getLeaf() instanceof ClassTree;
            CHECK.isTrue("rule 5: no initialiser block", !isInitialiser);
            return super.visitBlock(block, none);
        }

        @Override
        public Void visitMethod(MethodTree declared, Void none) {
            // Constructors that the compiler adds have no place in the source.
            long start = trees.getSourcePositions().getStartPosition(file, declared);
            long end = trees.getSourcePositions().getEndPosition(file, declared);
            if (end < 0) {
                return null;
            }
            long rows = file.getLineMap().getLineNumber(end) - file.getLineMap().getLineNumber(start) + 1;
            method = nameOf(trees.getElement(getCurrentPath()));
            isInConstructor = declared.getReturnType() == null;
            CHECK.isTrue("rule 11: " + method + " has " + rows + " rows", rows <= MOST_ROWS);
            CHECK.isTrue("rule 11: " + method + " takes too much", declared.getParameters().size() <= MOST_PARAMETERS);
            CHECK.isTrue("rule 3: type of " + method, isInConstructor || isType(declared.getReturnType()));
            calls.putIfAbsent(method, new TreeSet<>());
            super.visitMethod(declared, none);
            method = "";
            isInConstructor = false;
            return null;
        }

        @Override
        public Void visitVariable(VariableTree variable, Void none) {
            CHECK.isTrue("rule 3: type of " + variable, isType(variable.getType()));
            boolean isFinal = variable.getModifiers().getFlags().contains(Modifier.FINAL);
            CHECK.isTrue("rule 5: static is final: " + variable, !isStatic(variable) || isFinal);
            return super.visitVariable(variable, none);
        }

        @Override
        public Void visitMethodInvocation(MethodInvocationTree call, Void none) {
            ExpressionTree select = call.getMethodSelect();
            Element called = trees.getElement(new TreePath(getCurrentPath(), select));
            boolean isConstructor = called.getKind() == ElementKind.CONSTRUCTOR;
            if (!isConstructor) {
                String name = nameOf(called);
                boolean isOwn = classes.contains(called.getEnclosingElement().getSimpleName().toString());
                CHECK.isTrue("rule 4: " + name, isOwn || LIBRARY.contains(name));
                calls.computeIfAbsent(method, unseen -> new TreeSet<>()).add(name);
            }
            return super.visitMethodInvocation(call, none);
        }

        @Override
        public Void visitNewClass(NewClassTree made, Void none) {
            CHECK.isTrue("rule 2: no body of its own: " + made, made.getClassBody() == null);
            isMadeOnce(made);
            return super.visitNewClass(made, none);
        }

        @Override
        public Void visitNewArray(NewArrayTree made, Void none) {
            CHECK.isTrue("rule 3: one dimension: " + made, made.getDimensions().size() <= 1);
            isMadeOnce(made);
            return super.visitNewArray(made, none);
        }

        @Override
        public Void visitTypeCast(TypeCastTree cast, Void none) {
            CHECK.isTrue("rule 6: only casts among numbers: " + cast,
                List.of("int", "long").contains(cast.getType().toString()));
            return super.visitTypeCast(cast, none);
        }

        /** No rule asks for it, but so a run makes nothing but its halls (rule 12). */
        private void isMadeOnce(Tree made) {
            CHECK.isTrue("rule 12: " + method + " makes " + made, isInConstructor || method.isEmpty());
        }

        private boolean isType(Tree type) {
            return TYPES.contains(type.toString()) || classes.contains(type.toString());
        }

        private boolean isStatic(VariableTree variable) {
            return variable.getModifiers().getFlags().contains(Modifier.STATIC);
        }

        private String nameOf(Element called) {
            return called.getEnclosingElement().getSimpleName() + "." + called.getSimpleName();
        }
    }
}
