import com.sun.source.tree.ClassTree;
import com.sun.source.tree.CompilationUnitTree;
import com.sun.source.tree.ForLoopTree;
import com.sun.source.tree.MethodInvocationTree;
import com.sun.source.tree.MethodTree;
import com.sun.source.tree.NewClassTree;
import com.sun.source.tree.Tree;
import com.sun.source.tree.VariableTree;
import com.sun.source.util.JavacTask;
import com.sun.source.util.SourcePositions;
import com.sun.source.util.TreePath;
import com.sun.source.util.TreePathScanner;
import com.sun.source.util.Trees;
import java.io.File;
import java.nio.charset.StandardCharsets;
import java.nio.file.Files;
import java.util.List;
import java.util.Map;
import java.util.Set;
import java.util.TreeMap;
import java.util.TreeSet;
import javax.lang.model.element.Element;
import javax.lang.model.element.ElementKind;
import javax.lang.model.element.Modifier;
import javax.tools.JavaCompiler;
import javax.tools.StandardJavaFileManager;
import javax.tools.ToolProvider;

/** src/main/java/TinHouse.java keeps to ../shared/LANGUAGE.md, as far as its tree tells. */
public final class RulesTest {
    private static final File SOURCE = new File("src/main/java/TinHouse.java");
    private static final Set<String> LIBRARY = Set.of(
            "java.lang.Math.max", "java.lang.Math.min", "java.lang.Math.abs", "java.lang.System.arraycopy",
            "java.lang.Integer.bitCount", "java.util.Arrays.fill");
    private static final Set<Tree.Kind> FORBIDDEN = Set.of(
            Tree.Kind.THROW, Tree.Kind.TRY, Tree.Kind.CATCH, Tree.Kind.SYNCHRONIZED, Tree.Kind.ASSERT,
            Tree.Kind.LAMBDA_EXPRESSION, Tree.Kind.MEMBER_REFERENCE, Tree.Kind.SWITCH_EXPRESSION,
            Tree.Kind.BINDING_PATTERN, Tree.Kind.INSTANCE_OF, Tree.Kind.WHILE_LOOP, Tree.Kind.DO_WHILE_LOOP,
            Tree.Kind.STRING_LITERAL, Tree.Kind.DOUBLE_LITERAL, Tree.Kind.FLOAT_LITERAL);
    private static final Set<String> CONSTANTS = Set.of("int", "long", "boolean", "char", "java.lang.String",
            "int[]", "long[]", "char[]", "byte[]");
    private static final Check CHECK = new Check("RulesTest");

    public static void main(String[] args) throws Exception {
        JavaCompiler compiler = ToolProvider.getSystemJavaCompiler();
        StandardJavaFileManager files = compiler.getStandardFileManager(null, null, null);
        JavacTask task = (JavacTask) compiler.getTask(null, files, null, List.of("-proc:none"), null,
                files.getJavaFileObjects(SOURCE));
        CompilationUnitTree unit = task.parse().iterator().next();
        task.analyze();
        Rules rules = new Rules(Trees.instance(task), unit);
        rules.scan(unit, null);
        rules.calls();
        CHECK.due("classes", rules.classes <= 12 ? 1 : 0, 1);
        CHECK.due("signs beyond 127", beyondAscii(), 0);
        CHECK.end();
    }

    private static long beyondAscii() throws Exception {
        return Files.readString(SOURCE.toPath(), StandardCharsets.UTF_8).chars().filter(c -> c > 127).count();
    }

    private static void holds(String rule, boolean holds) {
        CHECK.due(rule, holds ? 1 : 0, 1);
    }

    private static final class Rules extends TreePathScanner<Void, Void> {
        final Trees trees;
        final CompilationUnitTree unit;
        final Set<String> face = new TreeSet<>();
        final Map<String, Set<String>> callsOf = new TreeMap<>();
        int classes = 0;
        String method = "none";

        Rules(Trees trees, CompilationUnitTree unit) {
            this.trees = trees;
            this.unit = unit;
        }

        @Override
        public Void scan(Tree tree, Void nothing) {
            if (tree != null) {
                holds("forbidden: " + tree.getKind() + " at line " + line(tree), !FORBIDDEN.contains(tree.getKind()));
            }
            return super.scan(tree, nothing);
        }

        private long line(Tree tree) {
            SourcePositions positions = trees.getSourcePositions();
            long at = positions.getStartPosition(unit, tree);
            return at < 0 ? -1 : unit.getLineMap().getLineNumber(at);
        }

        private long lines(Tree tree) {
            SourcePositions positions = trees.getSourcePositions();
            return unit.getLineMap().getLineNumber(positions.getEndPosition(unit, tree)) - line(tree) + 1;
        }

        @Override
        public Void visitClass(ClassTree tree, Void nothing) {
            classes++;
            String name = tree.getSimpleName().toString();
            Set<Modifier> flags = tree.getModifiers().getFlags();
            boolean isOuter = name.equals("TinHouse");
            holds("class within the one class: " + name,
                    isOuter || getCurrentPath().getParentPath().getLeaf() instanceof ClassTree);
            holds("static: " + name, isOuter || flags.contains(Modifier.STATIC));
            holds("not public: " + name, isOuter
                    || !flags.contains(Modifier.PUBLIC) && !flags.contains(Modifier.PROTECTED));
            long fields = tree.getMembers().stream().filter(RulesTest::isField).count();
            holds("fields of " + name + ": " + fields, fields <= 20);
            if (isOuter) {
                tree.getMembers().stream().filter(RulesTest::isPublicMethod)
                        .forEach(m -> face.add(((MethodTree) m).getName().toString()));
            }
            return super.visitClass(tree, nothing);
        }

        @Override
        public Void visitVariable(VariableTree tree, Void nothing) {
            Element element = trees.getElement(getCurrentPath());
            if (element.getKind() == ElementKind.FIELD && element.getModifiers().contains(Modifier.STATIC)) {
                holds("constant is final: " + tree.getName(), element.getModifiers().contains(Modifier.FINAL));
                holds("constant's type: " + tree.getName(), CONSTANTS.contains(element.asType().toString()));
            }
            return super.visitVariable(tree, nothing);
        }

        @Override
        public Void visitMethod(MethodTree tree, Void nothing) {
            Element element = trees.getElement(getCurrentPath());
            String owner = ((ClassTree) getCurrentPath().getParentPath().getLeaf()).getSimpleName().toString();
            method = owner + "." + tree.getName();
            callsOf.computeIfAbsent(method, k -> new TreeSet<>());
            holds("lines of " + method, lines(tree) <= 60);
            holds("parameters of " + method, tree.getParameters().size() <= 7);
            boolean isPublic = element.getModifiers().contains(Modifier.PUBLIC);
            holds("a public name: " + method, isPublic || !face.contains(tree.getName().toString()));
            return super.visitMethod(tree, nothing);
        }

        @Override
        public Void visitForLoop(ForLoopTree tree, Void nothing) {
            holds("a loop's end at line " + line(tree), tree.getCondition() != null && !tree.getUpdate().isEmpty());
            return super.visitForLoop(tree, nothing);
        }

        @Override
        public Void visitMethodInvocation(MethodInvocationTree tree, Void nothing) {
            Element called = trees.getElement(new TreePath(getCurrentPath(), tree.getMethodSelect()));
            called(called);
            return super.visitMethodInvocation(tree, nothing);
        }

        @Override
        public Void visitNewClass(NewClassTree tree, Void nothing) {
            holds("no class without a name at line " + line(tree), tree.getClassBody() == null);
            called(trees.getElement(getCurrentPath()));
            return super.visitNewClass(tree, nothing);
        }

        private void called(Element element) {
            Element owner = element.getEnclosingElement();
            String name = owner + "." + element.getSimpleName();
            if (owner.toString().startsWith("TinHouse")) {
                callsOf.computeIfAbsent(method, k -> new TreeSet<>())
                        .add(owner.getSimpleName() + "." + element.getSimpleName());
            } else if (element.getKind() == ElementKind.METHOD) {
                holds("library: " + name, LIBRARY.contains(name));
            }
        }

        void calls() {
            holds("the face is seen", face.size() == 45);
            Set<String> again = new TreeSet<>();
            for (String from : callsOf.keySet()) {
                Set<String> reached = new TreeSet<>();
                reach(from, reached);
                if (reached.contains(from)) {
                    again.add(from);
                }
            }
            holds("recursion: " + again, again.equals(Set.of("Men.settle", "Men.joins")));
            for (String from : callsOf.keySet()) {
                int depth = again.contains(from) ? 0 : depth(from, again);
                holds("depth of " + from + ": " + depth, depth <= 8);
            }
        }

        private void reach(String from, Set<String> reached) {
            for (String to : callsOf.getOrDefault(from, Set.of())) {
                if (reached.add(to)) {
                    reach(to, reached);
                }
            }
        }

        /** How many calls stand open at most; those that call themselves count once. */
        private int depth(String from, Set<String> again) {
            int deepest = 0;
            for (String to : callsOf.getOrDefault(from, Set.of())) {
                if (!(again.contains(from) && again.contains(to))) {
                    deepest = Math.max(deepest, depth(to, again));
                }
            }
            return 1 + deepest;
        }
    }

    private static boolean isField(Tree member) {
        return member instanceof VariableTree v && !v.getModifiers().getFlags().contains(Modifier.STATIC);
    }

    private static boolean isPublicMethod(Tree member) {
        return member instanceof MethodTree m && m.getModifiers().getFlags().contains(Modifier.PUBLIC)
                && !m.getName().contentEquals("<init>");
    }
}
