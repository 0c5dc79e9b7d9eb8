import com.sun.source.tree.ArrayAccessTree;
import com.sun.source.tree.AssignmentTree;
import com.sun.source.tree.BinaryTree;
import com.sun.source.tree.ClassTree;
import com.sun.source.tree.CompilationUnitTree;
import com.sun.source.tree.CompoundAssignmentTree;
import com.sun.source.tree.DoWhileLoopTree;
import com.sun.source.tree.ExpressionTree;
import com.sun.source.tree.ForLoopTree;
import com.sun.source.tree.MethodInvocationTree;
import com.sun.source.tree.MethodTree;
import com.sun.source.tree.NewClassTree;
import com.sun.source.tree.Tree;
import com.sun.source.tree.UnaryTree;
import com.sun.source.tree.VariableTree;
import com.sun.source.tree.WhileLoopTree;
import com.sun.source.util.JavacTask;
import com.sun.source.util.TreePath;
import com.sun.source.util.TreePathScanner;
import com.sun.source.util.Trees;
import java.io.IOException;
import java.nio.file.Path;
import java.util.ArrayList;
import java.util.LinkedHashMap;
import java.util.LinkedHashSet;
import java.util.List;
import java.util.Map;
import java.util.Set;
import javax.lang.model.element.Element;
import javax.lang.model.element.ElementKind;
import javax.lang.model.element.Modifier;
import javax.lang.model.type.ArrayType;
import javax.lang.model.type.TypeKind;
import javax.lang.model.type.TypeMirror;
import javax.tools.JavaCompiler;
import javax.tools.StandardJavaFileManager;
import javax.tools.ToolProvider;

/** What of LANGUAGE.md needs the compiler's own tree: types, library, recursion, loops, depth of calls. */
public final class LanguageTreeTest extends TreePathScanner<Void, Void> {
    private static final String SOURCE = "src/main/java/HalfFriends.java";

    // Rule 4, as far as a program that keeps rows of numbers alone can need it.
    private static final Set<String> LIBRARY = Set.of("String.length()", "String.charAt(int)", "String.isEmpty()",
        "String.equals(java.lang.Object)", "String.indexOf(int)", "String.substring(int)", "String.substring(int,int)",
        "String.toCharArray()", "Integer.bitCount(int)", "Integer.compare(int,int)", "Math.abs(int)", "Math.min(int,int)",
        "Math.max(int,int)", "Math.floorMod(int,int)", "Math.floorDiv(int,int)",
        "System.arraycopy(java.lang.Object,int,java.lang.Object,int,int)", "Object.Object()");

    private static final Set<Tree.Kind> RULED_OUT = Set.of(Tree.Kind.LAMBDA_EXPRESSION, Tree.Kind.MEMBER_REFERENCE,
        Tree.Kind.THROW, Tree.Kind.TRY, Tree.Kind.CATCH, Tree.Kind.SYNCHRONIZED, Tree.Kind.ASSERT, Tree.Kind.ANNOTATION,
        Tree.Kind.FLOAT_LITERAL, Tree.Kind.DOUBLE_LITERAL, Tree.Kind.IMPORT, Tree.Kind.PACKAGE, Tree.Kind.RECORD);

    private static final int MOST_DEEP = 8;

    private final Trees trees;
    private final Map<Element, Set<Element>> calls = new LinkedHashMap<>();
    private Element method = null;

    private LanguageTreeTest(Trees trees) {
        this.trees = trees;
    }

    public static void main(String[] args) throws IOException {
        JavaCompiler compiler = ToolProvider.getSystemJavaCompiler();
        try (StandardJavaFileManager files = compiler.getStandardFileManager(null, null, null)) {
            JavacTask task = (JavacTask) compiler.getTask(null, files, null, List.of("-proc:none"), null,
                files.getJavaFileObjects(Path.of(SOURCE)));
            CompilationUnitTree unit = task.parse().iterator().next();
            task.analyze();
            LanguageTreeTest test = new LanguageTreeTest(Trees.instance(task));
            test.scan(new TreePath(unit), null);
            test.recursion();
            test.depth();
        }
        Due.end();
    }

    private void holds(String what, boolean so) {
        Due.due(what, so ? 1 : 0, 1);
    }

    private String here() {
        CompilationUnitTree unit = getCurrentPath().getCompilationUnit();
        long at = trees.getSourcePositions().getStartPosition(unit, getCurrentPath().getLeaf());
        return "line " + unit.getLineMap().getLineNumber(at) + ": ";
    }

    private Element element(Tree tree) {
        return trees.getElement(new TreePath(getCurrentPath(), tree));
    }

    private boolean isText(ExpressionTree tree) {
        TypeMirror type = trees.getTypeMirror(new TreePath(getCurrentPath(), tree));
        return type != null && type.toString().equals("java.lang.String");
    }

    @Override
    public Void scan(Tree tree, Void v) {
        if (tree != null) {
            holds("no " + tree.getKind(), !RULED_OUT.contains(tree.getKind()));
        }
        return super.scan(tree, v);
    }

    // ---- rules 2 and 5: classes inside, no static initialiser block

    @Override
    public Void visitClass(ClassTree tree, Void v) {
        Element type = trees.getElement(getCurrentPath());
        boolean outer = type.getEnclosingElement().getKind() == ElementKind.PACKAGE;
        holds(here() + "a class inside stands in a class and is static", outer
            || (type.getEnclosingElement().getKind() == ElementKind.CLASS && type.getModifiers().contains(Modifier.STATIC)));
        for (Tree member : tree.getMembers()) {
            holds(here() + "no initialiser block", member.getKind() != Tree.Kind.BLOCK);
        }
        return super.visitClass(tree, v);
    }

    // ---- rules 3 and 5: types, static fields

    private boolean isAllowed(TypeMirror type, int dimensions) {
        switch (type.getKind()) {
            case ARRAY:
                return dimensions < 2 && isAllowed(((ArrayType) type).getComponentType(), dimensions + 1);
            case INT: case LONG: case SHORT: case BYTE: case CHAR: case BOOLEAN:
                return true;
            case DECLARED:
                String name = type.toString();
                return name.startsWith("HalfFriends") ? dimensions < 2 : name.equals("java.lang.String") && dimensions == 0;
            default:
                return false;
        }
    }

    @Override
    public Void visitVariable(VariableTree tree, Void v) {
        Element variable = trees.getElement(getCurrentPath());
        holds(here() + tree.getName() + " is of a type of rule 3", isAllowed(variable.asType(), 0));
        if (variable.getModifiers().contains(Modifier.STATIC)) {
            TypeKind kind = variable.asType().getKind();
            boolean constant = kind.isPrimitive() || variable.asType().toString().equals("java.lang.String");
            boolean row = kind == TypeKind.ARRAY && tree.getInitializer().getKind() == Tree.Kind.NEW_ARRAY
                && ((ArrayType) variable.asType()).getComponentType().getKind().isPrimitive();
            holds(here() + tree.getName() + " is a final constant or a row written out",
                variable.getModifiers().contains(Modifier.FINAL) && (constant || row));
        }
        return super.visitVariable(tree, v);
    }

    private void isNoStaticRow(Tree target) {
        if (target instanceof ArrayAccessTree place) {
            Element row = element(place.getExpression());
            holds(here() + "no place of a static row is changed", row == null || !row.getModifiers().contains(Modifier.STATIC));
        }
    }

    @Override
    public Void visitAssignment(AssignmentTree tree, Void v) {
        isNoStaticRow(tree.getVariable());
        return super.visitAssignment(tree, v);
    }

    @Override
    public Void visitCompoundAssignment(CompoundAssignmentTree tree, Void v) {
        isNoStaticRow(tree.getVariable());
        holds(here() + "texts are not joined by +=", !isText(tree.getVariable()));
        return super.visitCompoundAssignment(tree, v);
    }

    @Override
    public Void visitUnary(UnaryTree tree, Void v) {
        isNoStaticRow(tree.getExpression());
        return super.visitUnary(tree, v);
    }

    // ---- rules 6 and 10: texts

    @Override
    public Void visitBinary(BinaryTree tree, Void v) {
        boolean ofTexts = isText(tree.getLeftOperand()) || isText(tree.getRightOperand());
        holds(here() + "no +, ==, != of texts", !ofTexts);
        return super.visitBinary(tree, v);
    }

    // ---- rule 9: loops

    @Override
    public Void visitForLoop(ForLoopTree tree, Void v) {
        holds(here() + "a for with a counter, a bound and a step",
            tree.getInitializer().size() == 1 && isBound(tree.getCondition()) && tree.getUpdate().size() == 1);
        return super.visitForLoop(tree, v);
    }

    @Override
    public Void visitWhileLoop(WhileLoopTree tree, Void v) {
        holds(here() + "a while with a bound", isBound(tree.getCondition()));
        return super.visitWhileLoop(tree, v);
    }

    @Override
    public Void visitDoWhileLoop(DoWhileLoopTree tree, Void v) {
        holds(here() + "a do with a bound", isBound(tree.getCondition()));
        return super.visitDoWhileLoop(tree, v);
    }

    private static boolean isBound(ExpressionTree condition) {
        return condition != null && condition.toString().matches(".*(<|>|<=|>=) .*");
    }

    // ---- rules 4, 8, 11: calls

    @Override
    public Void visitMethod(MethodTree tree, Void v) {
        Element outer = method;
        method = trees.getElement(getCurrentPath());
        calls.put(method, new LinkedHashSet<>());
        super.visitMethod(tree, v);
        method = outer;
        return null;
    }

    @Override
    public Void visitMethodInvocation(MethodInvocationTree tree, Void v) {
        called(element(tree.getMethodSelect()));
        return super.visitMethodInvocation(tree, v);
    }

    @Override
    public Void visitNewClass(NewClassTree tree, Void v) {
        holds(here() + "no anonymous class", tree.getClassBody() == null);
        called(trees.getElement(getCurrentPath()));
        return super.visitNewClass(tree, v);
    }

    private void called(Element e) {
        Element type = e.getEnclosingElement();
        if (type.toString().startsWith("HalfFriends")) {
            if (method != null) {
                calls.get(method).add(e);
            }
            return;
        }
        String name = e.getKind() == ElementKind.CONSTRUCTOR ? type.getSimpleName() + e.toString().replaceFirst("^[^(]*", "") : e.toString();
        holds(here() + "the library has " + type.getSimpleName() + "." + name, LIBRARY.contains(type.getSimpleName() + "." + name));
    }

    /** Rule 8: what calls itself is private static; what call one another are private, or of a private class. */
    private void recursion() {
        for (Element e : calls.keySet()) {
            if (calls.get(e).contains(e)) {
                holds(e + " calls itself and is private static",
                    e.getModifiers().contains(Modifier.PRIVATE) && e.getModifiers().contains(Modifier.STATIC));
            }
            if (reaches(e, e, new LinkedHashSet<>())) {
                holds(e + " comes back to itself and is private", e.getModifiers().contains(Modifier.PRIVATE));
            }
        }
    }

    private boolean reaches(Element from, Element to, Set<Element> seen) {
        for (Element next : calls.getOrDefault(from, Set.of())) {
            if (next.equals(to) || (seen.add(next) && reaches(next, to, seen))) {
                return true;
            }
        }
        return false;
    }

    /** Rule 11: without coming back to one that is open, calls go at most eight deep. */
    private void depth() {
        for (Element e : calls.keySet()) {
            if (e.getModifiers().contains(Modifier.PUBLIC)) {
                List<Element> chain = deepest(e, new LinkedHashSet<>());
                holds(chain + " goes at most eight deep", chain.size() <= MOST_DEEP);
            }
        }
    }

    private List<Element> deepest(Element e, Set<Element> open) {
        List<Element> best = List.of();
        open.add(e);
        for (Element next : calls.getOrDefault(e, Set.of())) {
            List<Element> chain = open.contains(next) ? List.of() : deepest(next, open);
            best = chain.size() > best.size() ? chain : best;
        }
        open.remove(e);
        List<Element> all = new ArrayList<>(List.of(e));
        all.addAll(best);
        return all;
    }
}
