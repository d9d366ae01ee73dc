import com.sun.source.tree.*;
import com.sun.source.util.JavacTask;
import com.sun.source.util.TreePath;
import com.sun.source.util.TreePathScanner;
import com.sun.source.util.Trees;
import java.io.File;
import java.util.ArrayList;
import java.util.Arrays;
import java.util.HashMap;
import java.util.List;
import java.util.Map;
import java.util.Set;
import java.util.TreeSet;
import javax.lang.model.element.Element;
import javax.lang.model.element.ElementKind;
import javax.lang.model.element.ExecutableElement;
import javax.lang.model.element.Modifier;
import javax.lang.model.element.TypeElement;
import javax.tools.JavaCompiler;
import javax.tools.StandardJavaFileManager;
import javax.tools.ToolProvider;

/** The rules of LANGUAGE.md that need the source's tree: what is called, how deep, divisors, fields, kinds of statements. */
public final class RulesTest {
    private static final Set<Tree.Kind> BANNED = Set.of(Tree.Kind.THROW, Tree.Kind.TRY, Tree.Kind.CATCH, Tree.Kind.SYNCHRONIZED,
        Tree.Kind.ASSERT, Tree.Kind.LAMBDA_EXPRESSION, Tree.Kind.MEMBER_REFERENCE);
    /** What the class uses of what rule 4 allows. */
    private static final Set<String> LIBRARY = Set.of("String.length", "String.charAt", "String.indexOf",
        "StringBuilder.append", "AbstractStringBuilder.charAt", "AbstractStringBuilder.length", "Arrays.copyOf", "Arrays.fill",
        "Math.abs", "Math.max", "Math.min", "Math.floorDiv", "Math.floorMod", "Object.<init>", "StringBuilder.<init>");
    private static final Set<String> FIELD_TYPES = Set.of("int", "long", "boolean", "int[]", "java.lang.String",
        "OrnamentsOut.Note", "OrnamentsOut.Note[]", "OrnamentsOut.Song", "OrnamentsOut.Score", "OrnamentsOut.Reader",
        "OrnamentsOut.Writer");
    private static final int DEEPEST = 8;

    private final Trees trees;
    private final Map<Element, Set<Element>> calls = new HashMap<>();
    private final Map<String, Integer> fields = new HashMap<>();
    private int divisions = 0;

    private RulesTest(Trees trees) {
        this.trees = trees;
    }

    private final class Look extends TreePathScanner<Void, Void> {
        private Element method = null;

        @Override
        public Void scan(Tree tree, Void none) {
            if (tree != null) {
                Checks.holds("rules 2, 6: no " + tree.getKind(), !BANNED.contains(tree.getKind()));
            }
            return super.scan(tree, none);
        }

        @Override
        public Void visitClass(ClassTree tree, Void none) {
            Element type = trees.getElement(getCurrentPath());
            boolean inside = type.getEnclosingElement().getKind() == ElementKind.CLASS;
            Set<Modifier> has = type.getModifiers();
            Checks.holds("rule 2: " + type + " is static", !inside || has.contains(Modifier.STATIC));
            Checks.holds("rule 2: " + type + " has a name", !tree.getSimpleName().toString().isEmpty());
            return super.visitClass(tree, none);
        }

        @Override
        public Void visitBlock(BlockTree tree, Void none) {
            boolean initialiser = getCurrentPath().getParentPath().getLeaf() instanceof ClassTree;
            Checks.holds("rule 5: no initialiser block", !initialiser);
            return super.visitBlock(tree, none);
        }

        @Override
        public Void visitVariable(VariableTree tree, Void none) {
            Element is = trees.getElement(getCurrentPath());
            if (is.getKind() == ElementKind.FIELD) {
                Set<Modifier> has = is.getModifiers();
                Checks.holds("rule 3: type of " + is + ": " + is.asType(), FIELD_TYPES.contains(is.asType().toString()));
                Checks.holds("rule 1: " + is + " is private", has.contains(Modifier.PRIVATE) || is.toString().equals("NONE"));
                if (has.contains(Modifier.STATIC)) {
                    Checks.holds("rule 5: " + is + " is final", has.contains(Modifier.FINAL));
                    Checks.holds("rule 5: " + is + " is written out", isWrittenOut(tree.getInitializer()));
                } else {
                    fields.merge(is.getEnclosingElement().toString(), 1, Integer::sum);
                }
            }
            return super.visitVariable(tree, none);
        }

        private boolean isWrittenOut(ExpressionTree value) {
            return value != null && !(value instanceof MethodInvocationTree) && !(value instanceof NewClassTree)
                && !(value instanceof NewArrayTree array && array.getInitializers() == null);
        }

        @Override
        public Void visitMethod(MethodTree tree, Void none) {
            Element outer = method;
            method = trees.getElement(getCurrentPath());
            calls.put(method, new TreeSet<>((a, b) -> (a.getEnclosingElement() + "." + a).compareTo(b.getEnclosingElement() + "." + b)));
            Checks.holds("rule 11: " + method + " has seven parameters at most", tree.getParameters().size() <= 7);
            super.visitMethod(tree, none);
            method = outer;
            return null;
        }

        @Override
        public Void visitMethodInvocation(MethodInvocationTree tree, Void none) {
            called(trees.getElement(getCurrentPath()));
            return super.visitMethodInvocation(tree, none);
        }

        @Override
        public Void visitNewClass(NewClassTree tree, Void none) {
            called(trees.getElement(getCurrentPath()));
            return super.visitNewClass(tree, none);
        }

        private void called(Element target) {
            TypeElement owner = (TypeElement) target.getEnclosingElement();
            if (!isOwn(owner)) {
                String name = owner.getSimpleName() + "." + target.getSimpleName();
                Checks.holds("rule 4: " + name, LIBRARY.contains(name));
            }
            if (method != null) {
                calls.get(method).add(target);
            }
        }

        @Override
        public Void visitBinary(BinaryTree tree, Void none) {
            if (tree.getKind() == Tree.Kind.DIVIDE || tree.getKind() == Tree.Kind.REMAINDER) {
                divisor(tree.getRightOperand());
            }
            return super.visitBinary(tree, none);
        }

        @Override
        public Void visitCompoundAssignment(CompoundAssignmentTree tree, Void none) {
            if (tree.getKind() == Tree.Kind.DIVIDE_ASSIGNMENT || tree.getKind() == Tree.Kind.REMAINDER_ASSIGNMENT) {
                divisor(tree.getExpression());
            }
            return super.visitCompoundAssignment(tree, none);
        }

        /** It is a number above 0, or the same words are asked against 0 in the ?: around. */
        private void divisor(ExpressionTree by) {
            divisions++;
            boolean good = by instanceof LiteralTree number && number.getValue() instanceof Integer n && n > 0;
            for (TreePath path = getCurrentPath(); path != null && !good; path = path.getParentPath()) {
                if (path.getLeaf() instanceof ConditionalExpressionTree choice) {
                    String asked = choice.getCondition().toString();
                    good = asked.contains(by + " > 0") || asked.contains(by + " <= 0");
                }
            }
            Checks.holds("rule 7: divisor " + by + " is looked at", good);
        }
    }

    private static boolean isOwn(Element type) {
        return type.toString().equals("OrnamentsOut") || type.toString().startsWith("OrnamentsOut.");
    }

    /** How many calls stand open at most, from this one on; the path tells what is open. */
    private int depth(Element method, List<Element> path) {
        Checks.holds("rule 8: no recursion: " + path, !path.contains(method));
        if (path.contains(method)) {
            return 0;
        }
        path.add(method);
        int deepest = 0;
        for (Element target : calls.getOrDefault(method, Set.of())) {
            deepest = Math.max(deepest, depth(target, path));
        }
        path.remove(path.size() - 1);
        return deepest + 1;
    }

    private void end() {
        for (Element method : calls.keySet()) {
            if (method.getModifiers().contains(Modifier.PUBLIC)) {
                int deep = depth(method, new ArrayList<>());
                Checks.holds("rule 11: " + method + " is " + deep + " calls deep", deep <= DEEPEST);
            }
        }
        for (Map.Entry<String, Integer> has : fields.entrySet()) {
            Checks.holds("rule 11: fields of " + has, has.getValue() <= 20);
        }
        Checks.holds("methods are found", calls.size() > 100);
        Checks.holds("divisions are found", divisions > 10);
        for (Element method : calls.keySet()) {
            boolean isMethod = method instanceof ExecutableElement && method.getKind() == ElementKind.METHOD;
            boolean open = method.getModifiers().contains(Modifier.PUBLIC);
            boolean hidden = method.getModifiers().contains(Modifier.PRIVATE);
            Checks.holds("rule 1: " + method + " is public or private", !isMethod || open || hidden);
        }
        Checks.end("RulesTest");
    }

    public static void main(String[] args) throws Exception {
        JavaCompiler compiler = ToolProvider.getSystemJavaCompiler();
        StandardJavaFileManager files = compiler.getStandardFileManager(null, null, null);
        JavacTask task = (JavacTask) compiler.getTask(null, files, null, Arrays.asList("-proc:none"), null,
            files.getJavaFileObjects(new File("src/main/java/OrnamentsOut.java")));
        Iterable<? extends CompilationUnitTree> units = task.parse();
        task.analyze();
        RulesTest rules = new RulesTest(Trees.instance(task));
        for (CompilationUnitTree unit : units) {
            rules.new Look().scan(unit, null);
        }
        rules.end();
    }
}
