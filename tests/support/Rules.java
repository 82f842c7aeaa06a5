import com.sun.source.tree.*;
import com.sun.source.util.TreePath;
import com.sun.source.util.TreePathScanner;
import com.sun.source.util.Trees;
import java.util.HashMap;
import java.util.HashSet;
import java.util.Map;
import java.util.Set;
import java.util.regex.Pattern;
import javax.lang.model.element.Element;
import javax.lang.model.element.ElementKind;
import javax.lang.model.element.Modifier;
import javax.lang.model.element.TypeElement;

/** Goes through the whole tree of the class; each fail names the rule of LANGUAGE.md and the line. */
final class Rules extends TreePathScanner<Void, Void> {
    /** Of what the rules 4 and 13 leave, what the class uses. */
    private static final Set<String> LIBRARY = Set.of("java.lang.String.length", "java.lang.String.charAt",
        "java.lang.Math.abs", "java.lang.Math.max", "java.lang.Math.min", "java.lang.Integer.bitCount",
        "java.lang.System.arraycopy", "java.util.Arrays.fill");
    /** Of what rule 3 leaves, what the class uses besides its own classes. */
    private static final Set<String> TYPES = Set.of("void", "int", "long", "boolean", "String", "int[]");
    private static final Set<String> STATIC_TYPES = Set.of("int", "long", "boolean", "char", "String",
        "int[]", "long[]", "char[]", "byte[]");
    private static final int PARAMETERS = 7, LINES = 60, DEEP = 8, CLASSES = 12, FIELDS = 20;

    private final Trees trees;
    private final CompilationUnitTree unit;
    private final Check check;
    private final Set<String> own = new HashSet<>();
    /** Which methods of the class a method calls. */
    private final Map<Element, Set<Element>> calls = new HashMap<>();
    private Element method;

    Rules(Trees trees, CompilationUnitTree unit, Check check) {
        this.trees = trees;
        this.unit = unit;
        this.check = check;
    }

    private void fail(int rule, Tree at, String what) {
        long line = unit.getLineMap().getLineNumber(trees.getSourcePositions().getStartPosition(unit, at));
        check.fail("rule " + rule + ", line " + line + ": " + what);
    }

    private void keep(boolean kept, int rule, Tree at, String what) {
        if (!kept) {
            fail(rule, at, what);
        }
    }

    private Element element() {
        return trees.getElement(getCurrentPath());
    }

    private boolean isText(Tree tree) {
        return "java.lang.String".equals(String.valueOf(trees.getTypeMirror(new TreePath(getCurrentPath(), tree))));
    }

    private static boolean isStatic(ModifiersTree modifiers) {
        return modifiers.getFlags().contains(Modifier.STATIC);
    }

    // ---- the file, classes, members

    @Override public Void visitCompilationUnit(CompilationUnitTree tree, Void v) {
        keep(tree.getPackage() == null && tree.getTypeDecls().size() == 1, 1, tree, "not one class without a package");
        for (ImportTree named : tree.getImports()) {
            keep(named.getQualifiedIdentifier().toString().equals("java.util.Arrays"), 4, named, "" + named);
        }
        new TreePathScanner<Void, Void>() {
            @Override public Void visitClass(ClassTree inside, Void w) {
                own.add(inside.getSimpleName().toString());
                return super.visitClass(inside, w);
            }
        }.scan(tree, null);
        keep(own.size() <= CLASSES, 11, tree, own.size() + " classes");
        return super.visitCompilationUnit(tree, v);
    }

    @Override public Void visitClass(ClassTree tree, Void v) {
        TypeElement type = (TypeElement) element();
        Set<Modifier> flags = type.getModifiers();
        boolean outermost = getCurrentPath().getParentPath().getLeaf() instanceof CompilationUnitTree;
        if (outermost) {
            keep(flags.equals(Set.of(Modifier.PUBLIC, Modifier.FINAL)), 1, tree, "not public and final");
        } else {
            keep(type.getEnclosingElement().getKind().isClass() && flags.contains(Modifier.STATIC), 2, tree, "not static");
            keep(!flags.contains(Modifier.PUBLIC) && !flags.contains(Modifier.PROTECTED), 1, tree, "to be seen");
        }
        long fields = type.getEnclosedElements().stream()
            .filter(e -> e.getKind() == ElementKind.FIELD && !e.getModifiers().contains(Modifier.STATIC)).count();
        keep(fields <= FIELDS, 11, tree, fields + " fields");
        return super.visitClass(tree, v);
    }

    @Override public Void visitMethod(MethodTree tree, Void v) {
        method = element();
        calls.computeIfAbsent(method, m -> new HashSet<>());
        keep(!Set.of("equals", "hashCode", "toString").contains(tree.getName().toString()), 6, tree, tree.getName() + "()");
        keep(tree.getReturnType() == null || isLeft(tree.getReturnType()), 3, tree, "" + tree.getReturnType());
        keep(tree.getThrows().isEmpty(), 6, tree, "throws");
        keep(tree.getParameters().size() <= PARAMETERS, 11, tree, tree.getParameters().size() + " parameters");
        LineMap lines = unit.getLineMap();
        long first = lines.getLineNumber(trees.getSourcePositions().getStartPosition(unit, tree));
        long last = lines.getLineNumber(trees.getSourcePositions().getEndPosition(unit, tree));
        keep(last - first < LINES, 11, tree, (last - first + 1) + " lines");
        super.visitMethod(tree, v);
        method = null;
        return null;
    }

    @Override public Void visitVariable(VariableTree tree, Void v) {
        keep(isLeft(tree.getType()), 3, tree, "" + tree.getType());
        if (isStatic(tree.getModifiers())) {
            keep(tree.getModifiers().getFlags().contains(Modifier.FINAL), 5, tree, "static, not final");
            keep(STATIC_TYPES.contains("" + tree.getType()), 5, tree, "static " + tree.getType());
            boolean row = tree.getType() instanceof ArrayTypeTree;
            keep(row == tree.getInitializer() instanceof NewArrayTree, 5, tree, "not written out");
        }
        return super.visitVariable(tree, v);
    }

    private boolean isLeft(Tree type) {
        String name = type.toString();
        return TYPES.contains(name) || own.contains(name.replaceFirst("\\[\\]$", ""));
    }

    @Override public Void visitBlock(BlockTree tree, Void v) {
        keep(!tree.isStatic(), 5, tree, "a static initialiser block");
        return super.visitBlock(tree, v);
    }

    // ---- what is made and called

    /** Rows come with the object: no call makes anything (rule 12 would let it, within bounds). */
    private void made(Tree tree) {
        keep(method == null || method.getKind() == ElementKind.CONSTRUCTOR, 12, tree, "made in a call");
    }

    @Override public Void visitNewClass(NewClassTree tree, Void v) {
        made(tree);
        keep(tree.getClassBody() == null, 2, tree, "an anonymous class");
        keep(own.contains(tree.getIdentifier().toString()), 4, tree, "" + tree);
        return super.visitNewClass(tree, v);
    }

    @Override public Void visitNewArray(NewArrayTree tree, Void v) {
        made(tree);
        return super.visitNewArray(tree, v);
    }

    @Override public Void visitMethodInvocation(MethodInvocationTree tree, Void v) {
        Element called = element();
        String name = called.getEnclosingElement() + "." + called.getSimpleName();
        if (own.contains(called.getEnclosingElement().getSimpleName().toString())) {
            if (method != null && called.getKind() == ElementKind.METHOD) {
                calls.computeIfAbsent(method, m -> new HashSet<>()).add(called);
            }
        } else {
            keep(LIBRARY.contains(name) || called.getKind() == ElementKind.CONSTRUCTOR, 4, tree, name);
        }
        return super.visitMethodInvocation(tree, v);
    }

    // ---- what a method must not hold

    @Override public Void visitLambdaExpression(LambdaExpressionTree tree, Void v) {
        fail(2, tree, "a lambda");
        return super.visitLambdaExpression(tree, v);
    }

    @Override public Void visitMemberReference(MemberReferenceTree tree, Void v) {
        fail(2, tree, "a method reference");
        return super.visitMemberReference(tree, v);
    }

    @Override public Void visitThrow(ThrowTree tree, Void v) {
        fail(6, tree, "throw");
        return super.visitThrow(tree, v);
    }

    @Override public Void visitTry(TryTree tree, Void v) {
        fail(6, tree, "try");
        return super.visitTry(tree, v);
    }

    @Override public Void visitSynchronized(SynchronizedTree tree, Void v) {
        fail(6, tree, "synchronized");
        return super.visitSynchronized(tree, v);
    }

    @Override public Void visitAssert(AssertTree tree, Void v) {
        fail(6, tree, "assert");
        return super.visitAssert(tree, v);
    }

    @Override public Void visitBinary(BinaryTree tree, Void v) {
        boolean texts = isText(tree.getLeftOperand()) || isText(tree.getRightOperand());
        boolean like = tree.getKind() == Tree.Kind.EQUAL_TO || tree.getKind() == Tree.Kind.NOT_EQUAL_TO;
        keep(!texts, like ? 6 : 10, tree, "" + tree);
        return super.visitBinary(tree, v);
    }

    @Override public Void visitCompoundAssignment(CompoundAssignmentTree tree, Void v) {
        keep(!isText(tree.getVariable()), 10, tree, "" + tree);
        unchanged(tree.getVariable());
        return super.visitCompoundAssignment(tree, v);
    }

    @Override public Void visitAssignment(AssignmentTree tree, Void v) {
        unchanged(tree.getVariable());
        return super.visitAssignment(tree, v);
    }

    @Override public Void visitUnary(UnaryTree tree, Void v) {
        if (Pattern.matches("(POST|PRE)FIX_.*", tree.getKind().name())) {
            unchanged(tree.getExpression());
        }
        return super.visitUnary(tree, v);
    }

    private void unchanged(Tree variable) {
        if (variable instanceof ArrayAccessTree row) {
            Element of = trees.getElement(new TreePath(new TreePath(getCurrentPath(), variable), row.getExpression()));
            keep(of == null || !of.getModifiers().contains(Modifier.STATIC), 5, variable, "a static row is changed");
        }
    }

    @Override public Void visitLiteral(LiteralTree tree, Void v) {
        Object value = tree.getValue();
        keep(!(value instanceof Double) && !(value instanceof Float), 3, tree, "" + value);
        boolean plain = !(value instanceof String s) || s.chars().allMatch(c -> c >= 1 && c <= 127);
        keep(plain, 4, tree, "a sign beyond 127");
        return super.visitLiteral(tree, v);
    }

    @Override public Void visitForLoop(ForLoopTree tree, Void v) {
        ended(tree, tree.getCondition());
        return super.visitForLoop(tree, v);
    }

    @Override public Void visitWhileLoop(WhileLoopTree tree, Void v) {
        ended(tree, tree.getCondition());
        return super.visitWhileLoop(tree, v);
    }

    @Override public Void visitDoWhileLoop(DoWhileLoopTree tree, Void v) {
        ended(tree, tree.getCondition());
        return super.visitDoWhileLoop(tree, v);
    }

    /** A bound is told by < or >, or != to one (a counter that is looked at elsewhere isn't seen here). */
    private void ended(Tree loop, ExpressionTree condition) {
        keep(condition != null && Pattern.compile("[<>]").matcher(condition.toString()).find(), 9, loop, "no bound: " + condition);
    }

    // ---- which calls stand open at once

    void end() {
        for (Element one : calls.keySet()) {
            boolean recursion = reaches(one, one, new HashSet<>());
            keep(!recursion || bearsDepth(one), 8, unit, one + " calls itself without a depth");
            int deep = deep(one, new HashSet<>());
            keep(deep <= DEEP, 11, unit, one + " goes " + deep + " deep");
        }
    }

    private static boolean bearsDepth(Element one) {
        return one.getModifiers().contains(Modifier.PRIVATE)
            && ((javax.lang.model.element.ExecutableElement) one).getParameters().stream().anyMatch(p -> p.getSimpleName().contentEquals("open"));
    }

    private boolean reaches(Element from, Element to, Set<Element> seen) {
        for (Element next : calls.getOrDefault(from, Set.of())) {
            if (next.equals(to) || seen.add(next) && reaches(next, to, seen)) {
                return true;
            }
        }
        return false;
    }

    /** How many methods stand open from this one on at most, those that call one another counted once. */
    private int deep(Element one, Set<Element> within) {
        Set<Element> circle = new HashSet<>(within);
        circle.add(one);
        int most = 0;
        for (Element next : calls.getOrDefault(one, Set.of())) {
            boolean same = reaches(next, one, new HashSet<>());
            if (!circle.contains(next)) {
                most = Math.max(most, deep(next, same ? circle : Set.of()) - (same ? 1 : 0));
            }
        }
        return 1 + most;
    }
}
