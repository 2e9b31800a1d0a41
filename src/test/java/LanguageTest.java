import com.sun.source.tree.ArrayAccessTree;
import com.sun.source.tree.AssignmentTree;
import com.sun.source.tree.BinaryTree;
import com.sun.source.tree.BlockTree;
import com.sun.source.tree.ClassTree;
import com.sun.source.tree.CompilationUnitTree;
import com.sun.source.tree.CompoundAssignmentTree;
import com.sun.source.tree.ExpressionTree;
import com.sun.source.tree.ForLoopTree;
import com.sun.source.tree.LiteralTree;
import com.sun.source.tree.MethodInvocationTree;
import com.sun.source.tree.MethodTree;
import com.sun.source.tree.NewArrayTree;
import com.sun.source.tree.NewClassTree;
import com.sun.source.tree.Tree;
import com.sun.source.tree.UnaryTree;
import com.sun.source.tree.VariableTree;
import com.sun.source.util.JavacTask;
import com.sun.source.util.TreePath;
import com.sun.source.util.TreePathScanner;
import com.sun.source.util.Trees;
import java.io.IOException;
import java.util.ArrayList;
import java.util.EnumSet;
import java.util.HashMap;
import java.util.HashSet;
import java.util.List;
import java.util.Map;
import java.util.Set;
import java.util.TreeSet;
import javax.lang.model.element.Element;
import javax.lang.model.element.ElementKind;
import javax.lang.model.element.Modifier;
import javax.lang.model.type.TypeKind;
import javax.lang.model.type.TypeMirror;
import javax.tools.JavaCompiler;
import javax.tools.StandardJavaFileManager;
import javax.tools.ToolProvider;

/** The class keeps to the rules of LANGUAGE.md, as far as they can be read off its source. */
public final class LanguageTest extends Due {
    private static final String SOURCE = "src/main/java/HostNames.java";
    private static final int MOST_LINES = 60;
    private static final int MOST_PARAMETERS = 7;
    private static final int MOST_CLASSES = 12;
    private static final int MOST_FIELDS = 20;
    private static final int MOST_DEEP = 8;

    /** What the class has no need of, beside what the rules leave out altogether. */
    private static final Set<Tree.Kind> LEFT_OUT = EnumSet.of(
        Tree.Kind.PACKAGE, Tree.Kind.IMPORT, Tree.Kind.LAMBDA_EXPRESSION, Tree.Kind.MEMBER_REFERENCE, Tree.Kind.TRY,
        Tree.Kind.CATCH, Tree.Kind.THROW, Tree.Kind.SYNCHRONIZED, Tree.Kind.ASSERT, Tree.Kind.INSTANCE_OF,
        Tree.Kind.TYPE_CAST, Tree.Kind.WHILE_LOOP, Tree.Kind.DO_WHILE_LOOP, Tree.Kind.ENHANCED_FOR_LOOP,
        Tree.Kind.ANNOTATION, Tree.Kind.STRING_LITERAL, Tree.Kind.NULL_LITERAL);
    private static final Set<String> LIBRARY = Set.of("Math.max", "Math.min");
    private static final Set<String> SIMPLE_TYPES = Set.of("int", "long", "boolean", "int[]", "boolean[]");

    private final Trees trees;
    private final CompilationUnitTree unit;
    /** Of each method and constructor, which others its lines call. */
    private final Map<Element, Set<Element>> calls = new HashMap<>();

    private LanguageTest(Trees trees, CompilationUnitTree unit) {
        this.trees = trees;
        this.unit = unit;
    }

    public static void main(String[] args) throws IOException {
        JavaCompiler compiler = ToolProvider.getSystemJavaCompiler();
        StandardJavaFileManager files = compiler.getStandardFileManager(null, null, null);
        JavacTask task = (JavacTask) compiler.getTask(null, files, null, null, null, files.getJavaFileObjects(SOURCE));
        CompilationUnitTree unit = task.parse().iterator().next();
        task.analyze();
        LanguageTest test = new LanguageTest(Trees.instance(task), unit);
        test.kinds();
        test.classes();
        test.methods();
        test.staticFields();
        test.types();
        test.loops();
        test.making();
        test.library();
        test.depth();
        end();
    }

    // ---- walking

    private abstract static class Walk extends TreePathScanner<Void, Void> {
        abstract void at(Tree tree, TreePath path);

        @Override
        public Void scan(Tree tree, Void nothing) {
            if (tree != null) {
                at(tree, new TreePath(getCurrentPath(), tree));
            }
            return super.scan(tree, nothing);
        }
    }

    private record Found<T extends Tree>(T tree, TreePath path) { }

    private <T extends Tree> List<Found<T>> all(Class<T> kind) {
        List<Found<T>> found = new ArrayList<>();
        new Walk() {
            @Override
            void at(Tree tree, TreePath path) {
                if (kind.isInstance(tree) && isWritten(tree)) {
                    found.add(new Found<>(kind.cast(tree), path));
                }
            }
        }.scan(new TreePath(unit), null);
        return found;
    }

    /** The compiler adds constructors that nobody wrote. */
    private boolean isWritten(Tree tree) {
        return trees.getSourcePositions().getEndPosition(unit, tree) >= 0;
    }

    private String place(Tree tree) {
        long start = trees.getSourcePositions().getStartPosition(unit, tree);
        return "line " + unit.getLineMap().getLineNumber(start);
    }

    private Element element(TreePath path) {
        return trees.getElement(path);
    }

    private static boolean has(Set<Modifier> modifiers, Modifier... wanted) {
        return modifiers.containsAll(List.of(wanted));
    }

    private MethodTree methodAround(TreePath path) {
        for (TreePath up = path; up != null; up = up.getParentPath()) {
            if (up.getLeaf() instanceof MethodTree method) {
                return method;
            }
        }
        return null;
    }

    // ---- the rules

    private void kinds() {
        sentence("LANGUAGE 2, 3, 6: no lambda, no method reference, .. nothing else ever reaches its caller");
        for (Found<Tree> found : all(Tree.class)) {
            boolean isLeftOut = LEFT_OUT.contains(found.tree.getKind()) && !isNumberCast(found);
            due(place(found.tree) + ": has " + found.tree.getKind(), isLeftOut, false);
        }
        sentence("LANGUAGE: one file, without a package line, one public class");
        due("classes of the file", unit.getTypeDecls().size(), 1);
        due("package line", unit.getPackageName() == null, true);
        due("imports", unit.getImports().size(), 0);
    }

    private boolean isNumberCast(Found<Tree> found) {
        return found.tree.getKind() == Tree.Kind.TYPE_CAST && trees.getTypeMirror(found.path).getKind().isPrimitive();
    }

    private void classes() {
        sentence("LANGUAGE 1, 2: the classes inside it are private or package-visible and static");
        List<Found<ClassTree>> classes = all(ClassTree.class);
        for (Found<ClassTree> found : classes) {
            boolean isOuter = found.path.getParentPath().getLeaf() == unit;
            Set<Modifier> modifiers = found.tree.getModifiers().getFlags();
            String name = "class " + found.tree.getSimpleName();
            due(name + " is public", modifiers.contains(Modifier.PUBLIC), isOuter);
            due(name + " is final", modifiers.contains(Modifier.FINAL), true);
            due(name + " is static", modifiers.contains(Modifier.STATIC), !isOuter);
            due(name + " is protected", modifiers.contains(Modifier.PROTECTED), false);
            boolean isMember = isOuter || found.path.getParentPath().getLeaf() instanceof ClassTree;
            due(name + " is a member", isMember, true);
            due(name + " extends nothing", found.tree.getExtendsClause() == null, true);
        }
        sentence("LANGUAGE 11: the file has at most some twelve classes, and a class some twenty fields");
        due("classes " + classes.size(), classes.size() <= MOST_CLASSES, true);
        for (Found<ClassTree> found : classes) {
            long fields = found.tree.getMembers().stream().filter(this::isField).count();
            due("fields of " + found.tree.getSimpleName() + ": " + fields, fields <= MOST_FIELDS, true);
        }
    }

    private boolean isField(Tree member) {
        return member instanceof VariableTree field && !has(field.getModifiers().getFlags(), Modifier.STATIC);
    }

    private void methods() {
        sentence("LANGUAGE 11: a method takes at most seven parameters, methods stay short");
        Set<String> open = new TreeSet<>();
        Set<String> hidden = new TreeSet<>();
        for (Found<MethodTree> found : all(MethodTree.class)) {
            MethodTree method = found.tree;
            String name = method.getName() + "()";
            due(name + " parameters", method.getParameters().size() <= MOST_PARAMETERS, true);
            due(name + " lines", lines(method) <= MOST_LINES, true);
            due(name + " throws", method.getThrows().size(), 0);
            boolean isPublic = has(method.getModifiers().getFlags(), Modifier.PUBLIC);
            if (method.getReturnType() != null) {
                (isPublic ? open : hidden).add(name);
            }
        }
        sentence("LANGUAGE 1: no private method bears the name of a public one");
        hidden.retainAll(open);
        due("names of both", hidden.toString(), "[]");
    }

    private long lines(Tree tree) {
        long start = trees.getSourcePositions().getStartPosition(unit, tree);
        long end = trees.getSourcePositions().getEndPosition(unit, tree);
        return unit.getLineMap().getLineNumber(end) - unit.getLineMap().getLineNumber(start) + 1;
    }

    private void staticFields() {
        sentence("LANGUAGE 5: static fields are final .. written out in their initialiser and never changed");
        for (Found<VariableTree> found : all(VariableTree.class)) {
            boolean isMember = found.path.getParentPath().getLeaf() instanceof ClassTree;
            Set<Modifier> modifiers = found.tree.getModifiers().getFlags();
            if (isMember && has(modifiers, Modifier.STATIC)) {
                String name = "static " + found.tree.getName();
                due(name + " is final", has(modifiers, Modifier.FINAL), true);
                boolean isArray = found.tree.getInitializer() instanceof NewArrayTree;
                due(name + " is written out", isArray || isNumber(found.tree.getInitializer()), true);
            } else if (isMember) {
                due("field " + found.tree.getName() + " is private", has(modifiers, Modifier.PRIVATE), true);
            }
        }
        for (Found<BlockTree> found : all(BlockTree.class)) {
            boolean isInitialiser = found.path.getParentPath().getLeaf() instanceof ClassTree;
            due(place(found.tree) + ": initialiser block", isInitialiser, false);
        }
        for (Found<AssignmentTree> found : all(AssignmentTree.class)) {
            if (found.tree.getVariable() instanceof ArrayAccessTree access) {
                Element row = element(new TreePath(new TreePath(found.path, access), access.getExpression()));
                due(place(found.tree) + ": changes a constant row", has(row.getModifiers(), Modifier.STATIC), false);
            }
        }
    }

    /** A number, or a sum or product of numbers and constants, but no call. */
    private static boolean isNumber(ExpressionTree value) {
        if (value instanceof UnaryTree unary) {
            return isNumber(unary.getExpression());
        }
        if (value instanceof BinaryTree binary) {
            return isNumber(binary.getLeftOperand()) && isNumber(binary.getRightOperand());
        }
        return value instanceof LiteralTree || value != null && value.getKind() == Tree.Kind.IDENTIFIER;
    }

    private void types() {
        sentence("LANGUAGE 3: types");
        for (Found<VariableTree> found : all(VariableTree.class)) {
            TypeMirror type = element(found.path).asType();
            boolean isOwn = type.getKind() == TypeKind.DECLARED && type.toString().startsWith("HostNames.");
            String name = place(found.tree) + ": " + found.tree.getName() + " is of " + type;
            due(name, isOwn || SIMPLE_TYPES.contains(type.toString()), true);
        }
    }

    private void loops() {
        sentence("LANGUAGE 9: every loop has an end that can be seen from its own lines");
        for (Found<ForLoopTree> found : all(ForLoopTree.class)) {
            ForLoopTree loop = found.tree;
            due(place(loop) + ": one counter", loop.getInitializer().size(), 1);
            due(place(loop) + ": one step", loop.getUpdate().size(), 1);
            String counter = ((VariableTree) loop.getInitializer().get(0)).getName().toString();
            int step = step(loop, counter);
            due(place(loop) + ": steps by a number", step != 0, true);
            due(place(loop) + ": is held by a bound", isBounded(loop.getCondition(), counter, step), true);
            due(place(loop) + ": changes its counter", changes(found, counter), false);
        }
    }

    private static int step(ForLoopTree loop, String counter) {
        String text = loop.getUpdate().get(0).getExpression().toString();
        if (text.equals(counter + "++")) {
            return 1;
        }
        if (text.equals(counter + "--")) {
            return -1;
        }
        return text.matches(counter + " \\+= [1-9][0-9]*") ? 1 : 0;
    }

    private static boolean isBounded(ExpressionTree condition, String counter, int step) {
        if (condition.getKind() == Tree.Kind.CONDITIONAL_AND) {
            BinaryTree both = (BinaryTree) condition;
            return isBounded(both.getLeftOperand(), counter, step) || isBounded(both.getRightOperand(), counter, step);
        }
        String start = step > 0 ? "<=?" : ">=?";
        return condition.toString().matches(counter + "( \\+ [0-9]+)? " + start + " [A-Za-z0-9_.()]+");
    }

    private boolean changes(Found<ForLoopTree> loop, String counter) {
        boolean[] changed = {false};
        new Walk() {
            @Override
            void at(Tree tree, TreePath path) {
                boolean isChange = tree instanceof AssignmentTree change
                    && change.getVariable().toString().equals(counter)
                    || tree instanceof CompoundAssignmentTree grown && grown.getVariable().toString().equals(counter)
                    || tree instanceof UnaryTree unary && unary.toString().matches(counter + "(\\+\\+|--)");
                changed[0] |= isChange;
            }
        }.scan(new TreePath(loop.path, loop.tree.getStatement()), null);
        return changed[0];
    }

    private void making() {
        sentence("LANGUAGE 12: what a run makes is counted: rows are made in constructors alone");
        List<Found<? extends Tree>> made = new ArrayList<>(all(NewClassTree.class));
        made.addAll(all(NewArrayTree.class));
        for (Found<? extends Tree> found : made) {
            MethodTree method = methodAround(found.path);
            boolean isField = method == null;
            boolean isInConstructor = method != null && method.getReturnType() == null;
            due(place(found.tree) + ": made in a constructor", isField || isInConstructor, true);
        }
        sentence("LANGUAGE 12: a constructor .. hands out nothing of the object that it makes");
        for (Found<MethodInvocationTree> found : all(MethodInvocationTree.class)) {
            MethodTree method = methodAround(found.path);
            boolean isInConstructor = method != null && method.getReturnType() == null;
            boolean isOfCompiler = found.tree.toString().equals("super()");
            due(place(found.tree) + ": called by a constructor", isInConstructor && !isOfCompiler, false);
        }
        for (Found<NewClassTree> found : all(NewClassTree.class)) {
            for (ExpressionTree argument : found.tree.getArguments()) {
                ElementKind kind = element(new TreePath(found.path, argument)).getKind();
                boolean isConstant = kind == ElementKind.FIELD
                    && has(element(new TreePath(found.path, argument)).getModifiers(), Modifier.STATIC);
                due(place(found.tree) + ": gives away " + argument, isConstant, true);
            }
        }
    }

    private void library() {
        sentence("LANGUAGE 4, 13: the library: only what stands here");
        for (Found<MethodInvocationTree> found : all(MethodInvocationTree.class)) {
            Element called = element(new TreePath(found.path, found.tree.getMethodSelect()));
            boolean isOwn = owner(called).startsWith("HostNames");
            String name = found.tree.getMethodSelect().toString();
            boolean isAllowed = isOwn || LIBRARY.contains(name) || name.equals("super");
            due(place(found.tree) + ": calls " + name, isAllowed, true);
            MethodTree around = methodAround(found.path);
            if (around != null && !name.equals("super")) {
                Element caller = element(trees.getPath(unit, around));
                calls.computeIfAbsent(caller, any -> new HashSet<>()).add(called);
            }
        }
    }

    private static String owner(Element method) {
        return method.getEnclosingElement().toString();
    }

    private void depth() {
        sentence("LANGUAGE 8, 11: calls that are no recursion go at most eight deep");
        for (Element method : calls.keySet()) {
            int deep = deep(method, 0);
            due(method + " goes " + deep + " deep", deep <= MOST_DEEP, true);
        }
    }

    /** How many calls stand open at once, this one too; one that calls itself shows as too deep. */
    private int deep(Element method, int above) {
        int most = 0;
        if (above <= MOST_DEEP) {
            for (Element called : calls.getOrDefault(method, Set.of())) {
                most = Math.max(most, deep(called, above + 1));
            }
        }
        return most + 1;
    }
}
