import com.sun.source.tree.BinaryTree;
import com.sun.source.tree.ClassTree;
import com.sun.source.tree.CompilationUnitTree;
import com.sun.source.tree.ExpressionTree;
import com.sun.source.tree.ForLoopTree;
import com.sun.source.tree.LiteralTree;
import com.sun.source.tree.MethodInvocationTree;
import com.sun.source.tree.MethodTree;
import com.sun.source.tree.NewClassTree;
import com.sun.source.tree.Tree;
import com.sun.source.tree.VariableTree;
import com.sun.source.tree.WhileLoopTree;
import com.sun.source.util.JavacTask;
import com.sun.source.util.SourcePositions;
import com.sun.source.util.TreePath;
import com.sun.source.util.TreePathScanner;
import com.sun.source.util.Trees;
import java.io.File;
import java.util.List;
import java.util.Map;
import java.util.Set;
import java.util.TreeMap;
import java.util.TreeSet;
import javax.lang.model.element.Element;
import javax.lang.model.element.ElementKind;
import javax.lang.model.element.Modifier;
import javax.lang.model.type.TypeMirror;
import javax.tools.JavaCompiler;
import javax.tools.StandardJavaFileManager;
import javax.tools.ToolProvider;

/** src/main/java/TinHouse.java keeps to ../shared/LANGUAGE.md, as far as its tree tells: by the rules' numbers. */
public final class RulesTest {
    private static final File SOURCE = new File("src/main/java/TinHouse.java");
    private static final Set<Tree.Kind> FORBIDDEN = Set.of(
            Tree.Kind.THROW, Tree.Kind.TRY, Tree.Kind.CATCH, Tree.Kind.SYNCHRONIZED, Tree.Kind.ASSERT,
            Tree.Kind.LAMBDA_EXPRESSION, Tree.Kind.MEMBER_REFERENCE, Tree.Kind.PACKAGE);
    private static final Map<String, Set<String>> LIBRARY = Map.of(
            "java.lang.String", Set.of("length", "charAt", "isEmpty", "equals", "indexOf", "substring",
                    "toCharArray", "<init>"),
            "java.lang.StringBuilder", Set.of("<init>", "append", "charAt", "setCharAt", "setLength",
                    "deleteCharAt", "reverse", "length", "toString"),
            "java.util.ArrayList", Set.of("<init>", "add", "get", "set", "remove", "size", "isEmpty", "clear"),
            "java.util.List", Set.of("of", "add", "get", "set", "remove", "size", "isEmpty", "clear"),
            "java.util.Iterator", Set.of("hasNext", "next"),
            "java.lang.Iterable", Set.of("iterator"),
            "java.lang.Comparable", Set.of("compareTo"),
            "java.lang.System", Set.of("arraycopy"),
            "java.util.Arrays", Set.of("copyOf", "copyOfRange", "fill"),
            "java.lang.Object", Set.of("<init>", "clone"));
    private static final Set<String> NUMBERS = Set.of("java.lang.Integer", "java.lang.Long", "java.lang.Math");
    private static final Set<String> PLAIN = Set.of("int", "long", "short", "byte", "char", "boolean", "double", "float");
    private static final Set<String> TYPES = Set.of("java.lang.String", "java.lang.StringBuilder", "java.lang.Integer",
            "java.util.ArrayList", "java.util.List", "java.util.Iterator", "java.lang.Iterable", "java.lang.Comparable");
    private static final Set<String> CONSTANTS = Set.of("int", "long", "boolean", "char", "java.lang.String",
            "int[]", "long[]", "char[]", "byte[]");
    // Where a rule says "some", a fifth more still passes.
    private static final int LINES = 72, FIELDS = 24, CLASSES = 14, PARAMETERS = 7, DEPTH = 8;
    private static final Check CHECK = new Check("RulesTest");

    public static void main(String[] args) throws Exception {
        JavaCompiler compiler = ToolProvider.getSystemJavaCompiler();
        StandardJavaFileManager files = compiler.getStandardFileManager(null, null, null);
        JavacTask task = (JavacTask) compiler.getTask(null, files, null, List.of("-proc:none"), null,
                files.getJavaFileObjects(SOURCE));
        CompilationUnitTree unit = task.parse().iterator().next();
        task.analyze();
        Rules rules = new Rules(Trees.instance(task), unit);
        rules.scan(unit, null);
        rules.calls();
        holds("11: " + rules.classes + " classes", rules.classes <= CLASSES);
        CHECK.end();
    }

    private static void holds(String rule, boolean holds) {
        CHECK.due("rule " + rule, holds ? 1 : 0, 1);
    }

    private static final class Rules extends TreePathScanner<Void, Void> {
        final Trees trees;
        final CompilationUnitTree unit;
        final Set<String> face = new TreeSet<>();
        final Map<String, Set<String>> callsOf = new TreeMap<>();
        int classes = 0;
        String method = "none";

        Rules(Trees trees, CompilationUnitTree unit) {
            this.trees = trees;
            this.unit = unit;
        }

        @Override
        public Void scan(Tree tree, Void nothing) {
            if (tree != null) {
                holds("6: " + tree.getKind() + " at line " + line(tree), !FORBIDDEN.contains(tree.getKind()));
            }
            return super.scan(tree, nothing);
        }

        private long line(Tree tree) {
            SourcePositions positions = trees.getSourcePositions();
            long at = positions.getStartPosition(unit, tree);
            return at < 0 ? -1 : unit.getLineMap().getLineNumber(at);
        }

        private long lines(Tree tree) {
            SourcePositions positions = trees.getSourcePositions();
            return unit.getLineMap().getLineNumber(positions.getEndPosition(unit, tree)) - line(tree) + 1;
        }

        private TypeMirror typeOf(Tree tree) {
            return trees.getTypeMirror(new TreePath(getCurrentPath(), tree));
        }

        private boolean isOwn(String type) {
            return type.equals("TinHouse") || type.startsWith("TinHouse.");
        }

        @Override
        public Void visitClass(ClassTree tree, Void nothing) {
            classes++;
            String name = tree.getSimpleName().toString();
            Set<Modifier> flags = tree.getModifiers().getFlags();
            boolean isOuter = name.equals("TinHouse");
            boolean isPublic = flags.contains(Modifier.PUBLIC);
            holds("2: within the one class: " + name,
                    isOuter || getCurrentPath().getParentPath().getLeaf() instanceof ClassTree);
            holds("2: static: " + name, isOuter || tree.getKind() != Tree.Kind.CLASS || flags.contains(Modifier.STATIC));
            holds("1: not seen from outside: " + name, isOuter || !isPublic && !flags.contains(Modifier.PROTECTED));
            holds("1: public and final: " + name, !isOuter || isPublic && flags.contains(Modifier.FINAL));
            long fields = tree.getMembers().stream().filter(RulesTest::isField).count();
            holds("11: fields of " + name + ": " + fields, fields <= FIELDS);
            holds("5: no block of " + name, tree.getMembers().stream().noneMatch(m -> m.getKind() == Tree.Kind.BLOCK));
            if (isOuter) {
                tree.getMembers().stream().filter(RulesTest::isPublicMethod)
                        .forEach(m -> face.add(((MethodTree) m).getName().toString()));
            }
            return super.visitClass(tree, nothing);
        }

        @Override
        public Void visitVariable(VariableTree tree, Void nothing) {
            Element element = trees.getElement(getCurrentPath());
            String type = element.asType().toString();
            holds("3: type of " + tree.getName() + ": " + type, isKnown(element.asType()));
            if (element.getKind() == ElementKind.FIELD && element.getModifiers().contains(Modifier.STATIC)) {
                holds("5: constant is final: " + tree.getName(), element.getModifiers().contains(Modifier.FINAL));
                holds("5: constant's type: " + tree.getName(), CONSTANTS.contains(type) || isOwn(type));
            }
            return super.visitVariable(tree, nothing);
        }

        private boolean isKnown(TypeMirror type) {
            String name = type.toString().replaceAll("<.*>", "");
            boolean isMany = name.endsWith("[][]");
            String one = name.replace("[]", "");
            boolean isNumber = PLAIN.contains(one);
            return isNumber || !isMany && (TYPES.contains(one) || isOwn(one) || one.length() == 1);
        }

        @Override
        public Void visitMethod(MethodTree tree, Void nothing) {
            Element element = trees.getElement(getCurrentPath());
            String name = tree.getName().toString();
            String owner = ((ClassTree) getCurrentPath().getParentPath().getLeaf()).getSimpleName().toString();
            method = owner + "." + name;
            callsOf.computeIfAbsent(method, k -> new TreeSet<>());
            boolean isPrivate = element.getModifiers().contains(Modifier.PRIVATE);
            holds("11: lines of " + method, lines(tree) <= LINES);
            holds("11: parameters of " + method, tree.getParameters().size() <= PARAMETERS);
            holds("1: a public name: " + method, !isPrivate || !face.contains(name));
            holds("1: seen from outside: " + method, !owner.equals("TinHouse") || isPrivate
                    || element.getModifiers().contains(Modifier.PUBLIC));
            holds("6: " + method, !Set.of("equals", "hashCode", "toString", "finalize").contains(name));
            return super.visitMethod(tree, nothing);
        }

        @Override
        public Void visitForLoop(ForLoopTree tree, Void nothing) {
            holds("9: a loop's end at line " + line(tree), tree.getCondition() != null);
            return super.visitForLoop(tree, nothing);
        }

        @Override
        public Void visitWhileLoop(WhileLoopTree tree, Void nothing) {
            holds("9: a loop's end at line " + line(tree), !tree.getCondition().toString().equals("(true)"));
            return super.visitWhileLoop(tree, nothing);
        }

        @Override
        public Void visitBinary(BinaryTree tree, Void nothing) {
            boolean isText = isText(tree.getLeftOperand()) || isText(tree.getRightOperand());
            boolean isBoxed = isBoxed(tree.getLeftOperand()) && isBoxed(tree.getRightOperand());
            boolean isSame = tree.getKind() == Tree.Kind.EQUAL_TO || tree.getKind() == Tree.Kind.NOT_EQUAL_TO;
            holds("10: texts joined at line " + line(tree), !(isText && tree.getKind() == Tree.Kind.PLUS));
            holds("6: == at line " + line(tree), !(isSame && isBoxed));
            return super.visitBinary(tree, nothing);
        }

        private boolean isText(ExpressionTree tree) {
            return String.valueOf(typeOf(tree)).equals("java.lang.String");
        }

        private boolean isBoxed(ExpressionTree tree) {
            return isText(tree) || String.valueOf(typeOf(tree)).equals("java.lang.Integer");
        }

        @Override
        public Void visitLiteral(LiteralTree tree, Void nothing) {
            String signs = tree.getValue() instanceof String text ? text : "";
            holds("4: signs at line " + line(tree), signs.chars().allMatch(sign -> sign >= 1 && sign <= 127));
            return super.visitLiteral(tree, nothing);
        }

        @Override
        public Void visitMethodInvocation(MethodInvocationTree tree, Void nothing) {
            Element called = trees.getElement(new TreePath(getCurrentPath(), tree.getMethodSelect()));
            called(called, line(tree));
            return super.visitMethodInvocation(tree, nothing);
        }

        @Override
        public Void visitNewClass(NewClassTree tree, Void nothing) {
            holds("2: no class without a name at line " + line(tree), tree.getClassBody() == null);
            called(trees.getElement(getCurrentPath()), line(tree));
            return super.visitNewClass(tree, nothing);
        }

        private void called(Element element, long line) {
            String owner = element.getEnclosingElement().toString().replaceAll("<.*>", "");
            String name = element.getSimpleName().toString();
            if (isOwn(owner)) {
                callsOf.computeIfAbsent(method, k -> new TreeSet<>())
                        .add(element.getEnclosingElement().getSimpleName() + "." + name);
            } else if (NUMBERS.contains(owner)) {
                holds("4: " + owner + "." + name + " at line " + line,
                        element.getModifiers().contains(Modifier.STATIC) && !name.endsWith("Exact"));
            } else if (!owner.equals("Array") && !owner.startsWith("java.lang.Enum") && !owner.equals("java.lang.Record")) {
                holds("4: " + owner + "." + name + " at line " + line,
                        LIBRARY.getOrDefault(owner, Set.of()).contains(name));
            }
        }

        void calls() {
            Set<String> again = new TreeSet<>();
            for (String from : callsOf.keySet()) {
                Set<String> reached = new TreeSet<>();
                reach(from, reached);
                if (reached.contains(from)) {
                    again.add(from);
                    holds("8: recursion of what is private: " + from, !face.contains(from.replace("TinHouse.", "")));
                }
            }
            for (String from : callsOf.keySet()) {
                int depth = again.contains(from) ? 0 : depth(from, again);
                holds("11: depth of " + from + ": " + depth, depth <= DEPTH);
            }
        }

        private void reach(String from, Set<String> reached) {
            for (String to : callsOf.getOrDefault(from, Set.of())) {
                if (reached.add(to)) {
                    reach(to, reached);
                }
            }
        }

        /** How many calls stand open at most; those that call themselves are not gone into. */
        private int depth(String from, Set<String> again) {
            int deepest = 0;
            for (String to : callsOf.getOrDefault(from, Set.of())) {
                deepest = Math.max(deepest, again.contains(to) ? 1 : depth(to, again));
            }
            return 1 + deepest;
        }
    }

    private static boolean isField(Tree member) {
        return member instanceof VariableTree v && !v.getModifiers().getFlags().contains(Modifier.STATIC);
    }

    private static boolean isPublicMethod(Tree member) {
        return member instanceof MethodTree m && m.getModifiers().getFlags().contains(Modifier.PUBLIC)
                && !m.getName().contentEquals("<init>");
    }
}
