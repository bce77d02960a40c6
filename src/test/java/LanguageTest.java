import com.sun.source.tree.AssertTree;
import com.sun.source.tree.BinaryTree;
import com.sun.source.tree.BlockTree;
import com.sun.source.tree.CatchTree;
import com.sun.source.tree.ClassTree;
import com.sun.source.tree.CompilationUnitTree;
import com.sun.source.tree.CompoundAssignmentTree;
import com.sun.source.tree.ExpressionTree;
import com.sun.source.tree.ImportTree;
import com.sun.source.tree.LambdaExpressionTree;
import com.sun.source.tree.LiteralTree;
import com.sun.source.tree.MemberReferenceTree;
import com.sun.source.tree.MethodInvocationTree;
import com.sun.source.tree.MethodTree;
import com.sun.source.tree.NewArrayTree;
import com.sun.source.tree.NewClassTree;
import com.sun.source.tree.SynchronizedTree;
import com.sun.source.tree.ThrowTree;
import com.sun.source.tree.Tree;
import com.sun.source.tree.TryTree;
import com.sun.source.tree.TypeCastTree;
import com.sun.source.tree.VariableTree;
import com.sun.source.util.JavacTask;
import com.sun.source.util.TreePath;
import com.sun.source.util.TreePathScanner;
import com.sun.source.util.Trees;
import java.io.File;
import java.io.IOException;
import java.util.HashMap;
import java.util.HashSet;
import java.util.List;
import java.util.Map;
import java.util.Set;
import javax.lang.model.element.Element;
import javax.lang.model.element.ElementKind;
import javax.lang.model.element.Modifier;
import javax.lang.model.type.TypeKind;
import javax.lang.model.type.TypeMirror;
import javax.tools.StandardJavaFileManager;
import javax.tools.ToolProvider;

/** The source keeps to those rules of LANGUAGE.md that can be read off it; rule 7 is AnyCallsTest's. */
public final class LanguageTest extends TreePathScanner<Void, Void> {
    private static final String SOURCE = "src/main/java/SandKeepsSea.java";
    private static final Set<String> IMPORTS = Set.of("java.util.ArrayList", "java.util.Arrays", "java.util.Iterator",
        "java.util.List", "java.util.NoSuchElementException");
    private static final Set<String> THROWN = Set.of("IllegalStateException", "IllegalArgumentException",
        "IndexOutOfBoundsException", "ArithmeticException", "UnsupportedOperationException", "NoSuchElementException",
        "RuntimeException");
    /** Rule 6 lets these be caught, but this class may not answer a call by what the machine throws. */
    private static final Set<String> OF_THE_MACHINE = Set.of("IndexOutOfBoundsException", "ArithmeticException", "RuntimeException");
    private static final Set<String> TYPES = Set.of("int", "long", "short", "byte", "char", "boolean", "double", "float",
        "void", "java.lang.String", "java.lang.StringBuilder", "java.lang.Integer");
    private static final Set<String> CONSTANTS = Set.of("int", "long", "boolean", "char", "java.lang.String", "int[]",
        "long[]", "char[]", "byte[]");
    private static final Map<String, Set<String>> LIBRARY = Map.of(
        "java.lang.String", Set.of("length", "charAt", "isEmpty", "equals", "indexOf", "substring", "toCharArray"),
        "java.lang.StringBuilder", Set.of("append", "charAt", "setCharAt", "setLength", "deleteCharAt", "reverse", "length",
            "toString"),
        "java.lang.Integer", Set.of("compare", "max", "min", "bitCount"),
        "java.lang.Long", Set.of("compare", "max", "min", "bitCount"),
        "java.lang.Math", Set.of("max", "min", "abs", "floorDiv", "floorMod"),
        "java.lang.System", Set.of("arraycopy"),
        "java.util.Arrays", Set.of("copyOf", "copyOfRange", "fill"));

    private final Due due = new Due();
    private final CompilationUnitTree unit;
    private final Trees trees;
    private final Map<String, Set<String>> calls = new HashMap<>();
    private final Set<String> shown = new HashSet<>();
    private final Set<String> hidden = new HashSet<>();
    private int classes;

    private LanguageTest(JavacTask task) throws IOException {
        unit = task.parse().iterator().next();
        task.analyze();
        trees = Trees.instance(task);
    }

    public static void main(String[] args) throws IOException {
        try (StandardJavaFileManager files = ToolProvider.getSystemJavaCompiler().getStandardFileManager(null, null, null)) {
            JavacTask task = (JavacTask) ToolProvider.getSystemJavaCompiler().getTask(null, files, null, List.of("-proc:none"),
                null, files.getJavaFileObjects(new File(args.length > 0 ? args[0] : SOURCE)));
            LanguageTest test = new LanguageTest(task);
            test.scan(test.unit, null);
            test.whole();
            test.due.end();
        }
    }

    private void rule(int number, Tree at, String what, boolean kept) {
        long line = unit.getLineMap().getLineNumber(start(at));
        due.be("rule " + number + ", line " + line + ": " + what, kept, true);
    }

    private long start(Tree t) {
        return trees.getSourcePositions().getStartPosition(unit, t);
    }

    private long lines(Tree t) {
        long end = trees.getSourcePositions().getEndPosition(unit, t);
        return unit.getLineMap().getLineNumber(end) - unit.getLineMap().getLineNumber(start(t)) + 1;
    }

    private Element elementOf(Tree t) {
        return trees.getElement(new TreePath(getCurrentPath(), t));
    }

    private TypeMirror typeOf(Tree t) {
        return trees.getTypeMirror(new TreePath(getCurrentPath(), t));
    }

    private static boolean isText(TypeMirror type) {
        return type != null && type.toString().equals("java.lang.String");
    }

    private boolean isOwn(String type) {
        return type.equals("SandKeepsSea") || type.startsWith("SandKeepsSea.");
    }

    /** The method round what is looked at; null outside of methods. */
    private MethodTree method() {
        for (TreePath p = getCurrentPath(); p != null; p = p.getParentPath()) {
            if (p.getLeaf() instanceof MethodTree) {
                return (MethodTree) p.getLeaf();
            }
        }
        return null;
    }

    private boolean inConstructor() {
        MethodTree m = method();
        return m != null && m.getName().contentEquals("<init>");
    }

    // ---- the whole file

    private void whole() {
        due.be("rule 11: at most twelve classes, there are " + classes, classes <= 12, true);
        due.be("no package line", unit.getPackageName() == null, true);
        due.be("one class in the file", unit.getTypeDecls().size(), 1);
        for (String name : hidden) {
            due.be("rule 1: a private method named " + name, shown.contains(name), false);
        }
        Set<String> roots = new HashSet<>(calls.keySet());
        for (String root : roots) {
            int deep = depth(root, new HashSet<>());
            due.be("rule 11: calls from " + root + " go " + deep + " deep", deep <= 8, true);
        }
    }

    /** How many methods stand open at once at most, those that call one another counted as one. */
    private int depth(String from, Set<String> open) {
        Set<String> group = groupOf(from);
        open.addAll(group);
        int deepest = 0;
        for (String own : group) {
            for (String next : calls.getOrDefault(own, Set.of())) {
                if (!group.contains(next) && !open.contains(next)) {
                    deepest = Math.max(deepest, depth(next, open));
                }
            }
        }
        open.removeAll(group);
        return deepest + 1;
    }

    private Set<String> groupOf(String method) {
        Set<String> group = new HashSet<>(Set.of(method));
        for (String other : reached(method)) {
            if (reached(other).contains(method)) {
                group.add(other);
            }
        }
        return group;
    }

    private Set<String> reached(String from) {
        Set<String> all = new HashSet<>();
        java.util.ArrayDeque<String> rest = new java.util.ArrayDeque<>(calls.getOrDefault(from, Set.of()));
        while (!rest.isEmpty()) {
            String next = rest.pop();
            if (all.add(next)) {
                rest.addAll(calls.getOrDefault(next, Set.of()));
            }
        }
        return all;
    }

    // ---- what may not stand at all

    @Override
    public Void visitImport(ImportTree t, Void v) {
        rule(4, t, "import " + t.getQualifiedIdentifier(), !t.isStatic() && IMPORTS.contains(t.getQualifiedIdentifier().toString()));
        return super.visitImport(t, v);
    }

    @Override
    public Void visitLambdaExpression(LambdaExpressionTree t, Void v) {
        rule(2, t, "a lambda", false);
        return super.visitLambdaExpression(t, v);
    }

    @Override
    public Void visitMemberReference(MemberReferenceTree t, Void v) {
        rule(2, t, "a method reference", false);
        return super.visitMemberReference(t, v);
    }

    @Override
    public Void visitAssert(AssertTree t, Void v) {
        rule(6, t, "assert", false);
        return super.visitAssert(t, v);
    }

    @Override
    public Void visitSynchronized(SynchronizedTree t, Void v) {
        rule(6, t, "synchronized", false);
        return super.visitSynchronized(t, v);
    }

    @Override
    public Void visitBlock(BlockTree t, Void v) {
        rule(5, t, "no static initialiser", !t.isStatic());
        return super.visitBlock(t, v);
    }

    // ---- classes, fields, methods

    @Override
    public Void visitClass(ClassTree t, Void v) {
        classes++;
        Set<Modifier> flags = t.getModifiers().getFlags();
        if (getCurrentPath().getParentPath().getLeaf() == unit) {
            rule(1, t, "public and final", flags.equals(Set.of(Modifier.PUBLIC, Modifier.FINAL)));
        } else {
            rule(1, t, t.getSimpleName() + " is static", flags.contains(Modifier.STATIC));
            rule(1, t, t.getSimpleName() + " is hidden", !flags.contains(Modifier.PUBLIC) && !flags.contains(Modifier.PROTECTED));
        }
        int fields = 0;
        for (Tree member : t.getMembers()) {
            if (member instanceof VariableTree && !((VariableTree) member).getModifiers().getFlags().contains(Modifier.STATIC)) {
                fields++;
            }
        }
        rule(11, t, t.getSimpleName() + " has some twenty fields at most, not " + fields, fields <= 20);
        return super.visitClass(t, v);
    }

    @Override
    public Void visitVariable(VariableTree t, Void v) {
        String type = typeOf(t.getType()).toString();
        String plain = type.replace("[]", "");
        int dimensions = (type.length() - plain.length()) / 2;
        rule(3, t, "the type " + type, TYPES.contains(plain) || isOwn(plain));
        rule(3, t, "the array " + type, dimensions < 2 || dimensions == 2 && !isOwn(plain));
        if (t.getModifiers().getFlags().contains(Modifier.STATIC)) {
            rule(5, t, t.getName() + " is a constant", t.getModifiers().getFlags().contains(Modifier.FINAL) && CONSTANTS.contains(type));
            rule(5, t, t.getName() + " is written out", dimensions == 0 || t.getInitializer() instanceof NewArrayTree
                && ((NewArrayTree) t.getInitializer()).getInitializers() != null);
        }
        return super.visitVariable(t, v);
    }

    @Override
    public Void visitMethod(MethodTree t, Void v) {
        rule(11, t, t.getName() + " takes at most seven parameters", t.getParameters().size() <= 7);
        rule(11, t, t.getName() + " has some sixty lines at most", lines(t) <= 60);
        rule(6, t, "no " + t.getName() + " of one's own", !Set.of("equals", "hashCode", "toString").contains(t.getName().toString()));
        if (t.getModifiers().getFlags().contains(Modifier.PUBLIC)) {
            shown.add(t.getName().toString());
        } else if (t.getModifiers().getFlags().contains(Modifier.PRIVATE) && !t.getName().contentEquals("<init>")) {
            hidden.add(t.getName().toString());
        }
        calls.putIfAbsent(trees.getElement(getCurrentPath()).getEnclosingElement() + "." + t.getName(), new HashSet<>());
        return super.visitMethod(t, v);
    }

    // ---- calls, things made

    @Override
    public Void visitMethodInvocation(MethodInvocationTree t, Void v) {
        Element called = elementOf(t.getMethodSelect());
        String owner = called.getEnclosingElement().toString();
        String name = called.getSimpleName().toString();
        MethodTree from = method();
        if (called.getKind() == ElementKind.CONSTRUCTOR) {
            return super.visitMethodInvocation(t, v);
        }
        if (isOwn(owner)) {
            if (from != null) {
                Element self = trees.getElement(trees.getPath(unit, from));
                calls.computeIfAbsent(self.getEnclosingElement() + "." + from.getName(), k -> new HashSet<>()).add(owner + "." + name);
            }
        } else {
            rule(4, t, owner + "." + name, LIBRARY.getOrDefault(owner, Set.of()).contains(name));
        }
        return super.visitMethodInvocation(t, v);
    }

    @Override
    public Void visitNewClass(NewClassTree t, Void v) {
        boolean thrown = getCurrentPath().getParentPath().getLeaf() instanceof ThrowTree;
        rule(12, t, "an object is made with its owner or to be thrown", thrown || method() == null || inConstructor());
        rule(2, t, "no class without a name", t.getClassBody() == null);
        return super.visitNewClass(t, v);
    }

    @Override
    public Void visitNewArray(NewArrayTree t, Void v) {
        rule(12, t, "an array is made with its owner", method() == null || inConstructor());
        return super.visitNewArray(t, v);
    }

    // ---- exceptions

    @Override
    public Void visitThrow(ThrowTree t, Void v) {
        boolean made = t.getExpression() instanceof NewClassTree;
        rule(6, t, "what is thrown is made there", made);
        if (made) {
            NewClassTree exception = (NewClassTree) t.getExpression();
            rule(6, t, "throws " + exception.getIdentifier(), THROWN.contains(exception.getIdentifier().toString()));
            for (ExpressionTree argument : exception.getArguments()) {
                rule(6, t, "a written text", argument instanceof LiteralTree);
            }
        }
        rule(6, t, "no throw in a constructor", !inConstructor());
        return super.visitThrow(t, v);
    }

    @Override
    public Void visitTry(TryTree t, Void v) {
        rule(6, t, "no finally", t.getFinallyBlock() == null);
        rule(6, t, "no resources", t.getResources().isEmpty());
        return super.visitTry(t, v);
    }

    @Override
    public Void visitCatch(CatchTree t, Void v) {
        String caught = t.getParameter().getType().toString();
        rule(6, t, "catches " + caught, THROWN.contains(caught) && !OF_THE_MACHINE.contains(caught));
        return super.visitCatch(t, v);
    }

    // ---- texts, casts

    @Override
    public Void visitBinary(BinaryTree t, Void v) {
        boolean texts = isText(typeOf(t.getLeftOperand())) || isText(typeOf(t.getRightOperand()));
        rule(10, t, "no texts joined by + or compared by ==", !texts);
        if (t.getKind() == Tree.Kind.DIVIDE || t.getKind() == Tree.Kind.REMAINDER) {
            TypeKind kind = typeOf(t).getKind();
            rule(3, t, "whole numbers are divided", kind == TypeKind.INT || kind == TypeKind.LONG);
        }
        return super.visitBinary(t, v);
    }

    @Override
    public Void visitCompoundAssignment(CompoundAssignmentTree t, Void v) {
        rule(10, t, "no texts joined by +=", !isText(typeOf(t.getVariable())));
        return super.visitCompoundAssignment(t, v);
    }

    @Override
    public Void visitTypeCast(TypeCastTree t, Void v) {
        rule(7, t, "a cast of a number", typeOf(t.getType()).getKind().isPrimitive());
        return super.visitTypeCast(t, v);
    }

    @Override
    public Void visitLiteral(LiteralTree t, Void v) {
        if (t.getValue() instanceof String) {
            String text = (String) t.getValue();
            rule(4, t, "signs 1 to 127", text.chars().allMatch(s -> s >= 1 && s <= 127));
        }
        return super.visitLiteral(t, v);
    }
}
