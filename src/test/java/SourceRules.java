import com.sun.source.tree.AssertTree;
import com.sun.source.tree.BinaryTree;
import com.sun.source.tree.ClassTree;
import com.sun.source.tree.CompilationUnitTree;
import com.sun.source.tree.CompoundAssignmentTree;
import com.sun.source.tree.DoWhileLoopTree;
import com.sun.source.tree.ExpressionTree;
import com.sun.source.tree.ForLoopTree;
import com.sun.source.tree.ImportTree;
import com.sun.source.tree.InstanceOfTree;
import com.sun.source.tree.LambdaExpressionTree;
import com.sun.source.tree.LineMap;
import com.sun.source.tree.LiteralTree;
import com.sun.source.tree.MemberReferenceTree;
import com.sun.source.tree.MethodInvocationTree;
import com.sun.source.tree.MethodTree;
import com.sun.source.tree.NewArrayTree;
import com.sun.source.tree.NewClassTree;
import com.sun.source.tree.PackageTree;
import com.sun.source.tree.SynchronizedTree;
import com.sun.source.tree.ThrowTree;
import com.sun.source.tree.Tree;
import com.sun.source.tree.TryTree;
import com.sun.source.tree.TypeCastTree;
import com.sun.source.tree.VariableTree;
import com.sun.source.tree.WhileLoopTree;
import com.sun.source.util.TreePath;
import com.sun.source.util.TreePathScanner;
import com.sun.source.util.Trees;
import java.util.ArrayList;
import java.util.List;
import java.util.Map;
import java.util.Set;
import java.util.TreeMap;
import java.util.TreeSet;
import javax.lang.model.element.Element;
import javax.lang.model.element.ElementKind;
import javax.lang.model.element.ExecutableElement;
import javax.lang.model.element.Modifier;
import javax.lang.model.type.TypeKind;

/** Goes through a source's tree and keeps what breaks a rule, each with the rule's number; and who calls whom. */
final class SourceRules extends TreePathScanner<Void, Void> {
    private static final Set<String> LIBRARY = Set.of("Math.min", "Math.max", "Math.abs", "String.length", "String.charAt");
    private static final Set<String> THROWN = Set.of("IndexOutOfBoundsException", "NoSuchElementException");
    private static final Set<String> CONSTANTS = Set.of("int", "long", "boolean", "char", "String", "int[]", "long[]", "char[]",
        "byte[]");
    /** Whole numbers, rows of them, tables of int, and own classes. */
    private static final String TYPES = "(int|long|boolean|char|[A-Z]\\w*)(\\[\\])?|int\\[\\]\\[\\]";
    private static final int MOST_PARAMETERS = 7;
    private static final int MOST_LINES = 60;
    private static final int MOST_FIELDS = 20;

    final List<String> broken = new ArrayList<>();
    final Set<String> classes = new TreeSet<>();
    final Map<String, Set<String>> calls = new TreeMap<>();
    private final Set<String> face = new TreeSet<>();
    private final Trees trees;
    private CompilationUnitTree unit;

    SourceRules(Trees trees) {
        this.trees = trees;
    }

    private long line(Tree tree) {
        return unit.getLineMap().getLineNumber(trees.getSourcePositions().getStartPosition(unit, tree));
    }

    private void rule(int number, Tree tree, boolean holds, String what) {
        if (!holds) {
            broken.add("rule " + number + ", line " + line(tree) + ": " + what);
        }
    }

    private Void never(int number, Tree tree, String what) {
        rule(number, tree, false, what);
        return null;
    }

    @Override
    public Void visitCompilationUnit(CompilationUnitTree tree, Void v) {
        unit = tree;
        rule(1, tree, tree.getTypeDecls().size() == 1, "one class in the file");
        ClassTree top = (ClassTree) tree.getTypeDecls().get(0);
        for (Tree member : top.getMembers()) {
            if (member instanceof MethodTree m && m.getModifiers().getFlags().contains(Modifier.PUBLIC)) {
                face.add(m.getName().toString());
            }
        }
        face.remove("<init>");
        return super.visitCompilationUnit(tree, v);
    }

    @Override
    public Void visitPackage(PackageTree tree, Void v) {
        return never(1, tree, "a package line");
    }

    @Override
    public Void visitImport(ImportTree tree, Void v) {
        rule(4, tree, tree.getQualifiedIdentifier().toString().equals("java.util.NoSuchElementException"), tree.toString());
        return null;
    }

    @Override
    public Void visitClass(ClassTree tree, Void v) {
        int fields = 0;
        classes.add(tree.getSimpleName().toString());
        Set<Modifier> how = tree.getModifiers().getFlags();
        rule(2, tree, how.contains(Modifier.FINAL), "a class that another could override");
        rule(2, tree, how.contains(Modifier.STATIC) || getCurrentPath().getParentPath().getLeaf() == unit, "a class that is not static");
        for (Tree member : tree.getMembers()) {
            rule(5, member, member.getKind() != Tree.Kind.BLOCK, "an initialiser block");
            fields += member instanceof VariableTree f && !f.getModifiers().getFlags().contains(Modifier.STATIC) ? 1 : 0;
        }
        rule(11, tree, fields <= MOST_FIELDS, fields + " fields in " + tree.getSimpleName());
        return super.visitClass(tree, v);
    }

    @Override
    public Void visitMethod(MethodTree tree, Void v) {
        LineMap map = unit.getLineMap();
        long lines = map.getLineNumber(trees.getSourcePositions().getEndPosition(unit, tree)) - line(tree) + 1;
        boolean ofFace = tree.getModifiers().getFlags().contains(Modifier.PUBLIC);
        rule(1, tree, ofFace || !face.contains(tree.getName().toString()), tree.getName() + " bears a name of the face");
        rule(11, tree, tree.getParameters().size() <= MOST_PARAMETERS, tree.getName() + " has too many parameters");
        rule(11, tree, lines <= MOST_LINES, tree.getName() + " has " + lines + " lines");
        calls.computeIfAbsent(nameOf(elementHere()), k -> new TreeSet<>());
        return super.visitMethod(tree, v);
    }

    @Override
    public Void visitVariable(VariableTree tree, Void v) {
        Set<Modifier> how = tree.getModifiers().getFlags();
        String type = tree.getType().toString();
        if (how.contains(Modifier.STATIC)) {
            rule(5, tree, how.contains(Modifier.FINAL) && CONSTANTS.contains(type), tree.getName() + " is no constant");
        } else {
            rule(3, tree, type.matches(TYPES), tree.getName() + " is of " + type);
        }
        return super.visitVariable(tree, v);
    }

    @Override
    public Void visitMethodInvocation(MethodInvocationTree tree, Void v) {
        Element called = trees.getElement(new TreePath(getCurrentPath(), tree.getMethodSelect()));
        String name = nameOf(called);
        if (!name.equals("Object.<init>")) {
            boolean own = isOwn(called);
            rule(4, tree, own || LIBRARY.contains(name), name + " is not of the library that is left");
            noteCall(own, name);
        }
        return super.visitMethodInvocation(tree, v);
    }

    private void noteCall(boolean own, String name) {
        String caller = callerHere();
        if (own && caller != null) {
            calls.computeIfAbsent(caller, k -> new TreeSet<>()).add(name);
        }
    }

    @Override
    public Void visitNewClass(NewClassTree tree, Void v) {
        boolean thrown = getCurrentPath().getParentPath().getLeaf() instanceof ThrowTree;
        rule(2, tree, tree.getClassBody() == null, "an anonymous class");
        rule(12, tree, thrown || isMadeWithItsObject(), "made by a call: " + tree);
        return super.visitNewClass(tree, v);
    }

    @Override
    public Void visitNewArray(NewArrayTree tree, Void v) {
        rule(12, tree, isMadeWithItsObject(), "made by a call: " + tree);
        return super.visitNewArray(tree, v);
    }

    /** Rule 6: a throw holds its own new exception with a written text, and none is in a constructor. */
    @Override
    public Void visitThrow(ThrowTree tree, Void v) {
        boolean plain = tree.getExpression() instanceof NewClassTree made && THROWN.contains(made.getIdentifier().toString())
            && made.getArguments().stream().allMatch(a -> a instanceof LiteralTree);
        rule(6, tree, plain, tree.toString());
        rule(6, tree, "ClodDesk.look".equals(callerHere()), "only look throws");
        return super.visitThrow(tree, v);
    }

    @Override
    public Void visitTry(TryTree tree, Void v) {
        return never(6, tree, "the class needs no try");
    }

    @Override
    public Void visitSynchronized(SynchronizedTree tree, Void v) {
        return never(6, tree, "synchronized");
    }

    @Override
    public Void visitAssert(AssertTree tree, Void v) {
        return never(6, tree, "assert");
    }

    @Override
    public Void visitInstanceOf(InstanceOfTree tree, Void v) {
        return never(6, tree, "the class needs no instanceof");
    }

    @Override
    public Void visitLambdaExpression(LambdaExpressionTree tree, Void v) {
        return never(2, tree, "a lambda");
    }

    @Override
    public Void visitMemberReference(MemberReferenceTree tree, Void v) {
        return never(2, tree, "a method reference");
    }

    @Override
    public Void visitTypeCast(TypeCastTree tree, Void v) {
        rule(6, tree, Set.of("int", "long").contains(tree.getType().toString()), "a cast among classes");
        return super.visitTypeCast(tree, v);
    }

    /** Rule 9: the end of each loop is in its own head. */
    @Override
    public Void visitForLoop(ForLoopTree tree, Void v) {
        rule(9, tree, tree.getCondition() != null && !tree.getUpdate().isEmpty(), "a for without a bound and a step");
        return super.visitForLoop(tree, v);
    }

    @Override
    public Void visitWhileLoop(WhileLoopTree tree, Void v) {
        rule(9, tree, tree.getCondition().toString().matches("\\(\\w+ <=? [\\w.]+ && .*"), "a while without a bound");
        return super.visitWhileLoop(tree, v);
    }

    @Override
    public Void visitDoWhileLoop(DoWhileLoopTree tree, Void v) {
        return never(9, tree, "the class needs no do");
    }

    @Override
    public Void visitBinary(BinaryTree tree, Void v) {
        checkDivisor(tree, tree.getKind(), tree.getRightOperand());
        rule(10, tree, !isText(tree.getLeftOperand()) && !isText(tree.getRightOperand()), "texts joined or compared by a sign");
        return super.visitBinary(tree, v);
    }

    @Override
    public Void visitCompoundAssignment(CompoundAssignmentTree tree, Void v) {
        boolean divides = tree.getKind() == Tree.Kind.DIVIDE_ASSIGNMENT || tree.getKind() == Tree.Kind.REMAINDER_ASSIGNMENT;
        rule(7, tree, !divides, "a divisor that can't be looked at: " + tree);
        rule(10, tree, !isText(tree.getVariable()), "texts joined by a sign");
        return super.visitCompoundAssignment(tree, v);
    }

    /** Rule 7: a divisor is written out, or a test of it stands around the division in the same method. */
    private void checkDivisor(BinaryTree tree, Tree.Kind kind, ExpressionTree divisor) {
        if (kind != Tree.Kind.DIVIDE && kind != Tree.Kind.REMAINDER) {
            return;
        }
        boolean written = divisor instanceof LiteralTree && !divisor.toString().equals("0");
        boolean tested = false;
        for (TreePath p = getCurrentPath(); !(p.getLeaf() instanceof MethodTree); p = p.getParentPath()) {
            tested |= p.getLeaf().toString().matches("(?s).*\\b" + java.util.regex.Pattern.quote(divisor.toString()) + " (>|!=) 0\\b.*");
        }
        rule(7, tree, written || tested, "a divisor that is not looked at: " + tree);
    }

    private boolean isText(Tree tree) {
        javax.lang.model.type.TypeMirror type = trees.getTypeMirror(new TreePath(getCurrentPath(), tree));
        return type != null && type.getKind() == TypeKind.DECLARED && type.toString().equals("java.lang.String");
    }

    private Element elementHere() {
        return trees.getElement(getCurrentPath());
    }

    private static String nameOf(Element method) {
        return method.getEnclosingElement().getSimpleName() + "." + method.getSimpleName();
    }

    private static boolean isOwn(Element method) {
        Element e = method;
        while (e.getEnclosingElement().getKind() != ElementKind.PACKAGE) {
            e = e.getEnclosingElement();
        }
        return e.getSimpleName().contentEquals("ClodDesk");
    }

    /** The method around, or null in a field's initialiser. */
    private String callerHere() {
        for (TreePath p = getCurrentPath(); p != null; p = p.getParentPath()) {
            if (p.getLeaf() instanceof MethodTree) {
                return nameOf((ExecutableElement) trees.getElement(p));
            }
        }
        return null;
    }

    private boolean isMadeWithItsObject() {
        String caller = callerHere();
        return caller == null || caller.endsWith(".<init>");
    }
}
