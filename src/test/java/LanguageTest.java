import com.sun.source.tree.AssertTree;
import com.sun.source.tree.BinaryTree;
import com.sun.source.tree.ClassTree;
import com.sun.source.tree.CompilationUnitTree;
import com.sun.source.tree.IdentifierTree;
import com.sun.source.tree.ImportTree;
import com.sun.source.tree.LambdaExpressionTree;
import com.sun.source.tree.LiteralTree;
import com.sun.source.tree.MemberReferenceTree;
import com.sun.source.tree.MemberSelectTree;
import com.sun.source.tree.MethodInvocationTree;
import com.sun.source.tree.MethodTree;
import com.sun.source.tree.NewClassTree;
import com.sun.source.tree.SynchronizedTree;
import com.sun.source.tree.ThrowTree;
import com.sun.source.tree.Tree;
import com.sun.source.tree.TryTree;
import com.sun.source.tree.VariableTree;
import com.sun.source.util.JavacTask;
import com.sun.source.util.TreeScanner;
import java.io.File;
import java.util.ArrayDeque;
import java.util.Deque;
import java.util.HashMap;
import java.util.HashSet;
import java.util.Map;
import java.util.Set;
import java.util.TreeSet;
import javax.lang.model.element.Modifier;
import javax.tools.JavaCompiler;
import javax.tools.StandardJavaFileManager;
import javax.tools.ToolProvider;

/** What can be seen of the rules of LANGUAGE.md in the tree of SalePart.java. */
public final class LanguageTest extends TreeScanner<Void, Void> {
    private static final Set<String> EXCEPTIONS = Set.of("IllegalStateException", "IllegalArgumentException",
            "IndexOutOfBoundsException", "ArithmeticException", "UnsupportedOperationException",
            "NoSuchElementException", "RuntimeException");
    private static final Set<String> LIBRARY = Set.of("String", "StringBuilder", "Integer", "Long", "Math",
            "ArrayList", "List", "Arrays", "System", "Iterator", "Iterable", "Comparable");
    private static final Set<String> STATIC = Set.of("int", "long", "boolean", "char", "String", "int[]", "long[]",
            "char[]", "byte[]");

    private final CompilationUnitTree unit;
    private final com.sun.source.util.SourcePositions places;
    private final Deque<ClassTree> classes = new ArrayDeque<>();
    private final Set<String> own = new TreeSet<>();
    private final Map<String, Set<String>> calls = new HashMap<>();
    private MethodTree method = null;

    private LanguageTest(CompilationUnitTree unit, com.sun.source.util.SourcePositions places) {
        this.unit = unit;
        this.places = places;
    }

    public static void main(String[] args) throws Exception {
        JavaCompiler compiler = ToolProvider.getSystemJavaCompiler();
        try (StandardJavaFileManager files = compiler.getStandardFileManager(null, null, null)) {
            JavacTask task = (JavacTask) compiler.getTask(null, files, null, null, null,
                    files.getJavaFileObjects(new File("src/main/java/SalePart.java")));
            for (CompilationUnitTree unit : task.parse()) {
                var test = new LanguageTest(unit, com.sun.source.util.Trees.instance(task).getSourcePositions());
                test.scan(unit, null);
                test.whole();
            }
        }
        Due.end();
    }

    private void whole() {
        Due.same("rule 11: classes above twelve in " + own, 0, Math.max(0, own.size() - 12));
        for (String name : calls.keySet()) {
            Due.yes("rule 11: at most eight calls deep from " + name, deep(name, new HashSet<>()) <= 8);
        }
        for (ImportTree used : unit.getImports()) {
            String name = used.getQualifiedIdentifier().toString();
            String last = name.substring(name.lastIndexOf('.') + 1);
            Due.yes("rule 4: import of " + name, LIBRARY.contains(last) || EXCEPTIONS.contains(last));
        }
    }

    /** How many calls stand open at most, a call back into what stands open counting for nothing. */
    private int deep(String name, Set<String> open) {
        if (!calls.containsKey(name) || open.contains(name)) {
            return 0;
        }
        open.add(name);
        int most = 0;
        for (String called : calls.get(name)) {
            most = Math.max(most, deep(called, open));
        }
        open.remove(name);
        return most + (calls(name, name, new HashSet<>()) ? 0 : 1);
    }

    private boolean calls(String from, String to, Set<String> seen) {
        for (String called : calls.getOrDefault(from, Set.of())) {
            if (called.equals(to) || seen.add(called) && calls(called, to, seen)) {
                return true;
            }
        }
        return false;
    }

    private String place(Tree tree) {
        long at = places.getStartPosition(unit, tree);
        return " in line " + unit.getLineMap().getLineNumber(at) + ": " + tree.toString().strip().lines().findFirst()
                .orElse("");
    }

    @Override
    public Void visitClass(ClassTree tree, Void none) {
        own.add(tree.getSimpleName().toString());
        Set<Modifier> modifiers = tree.getModifiers().getFlags();
        boolean inside = !classes.isEmpty();
        Due.yes("rule 2: a static class" + tree.getSimpleName(), !inside || modifiers.contains(Modifier.STATIC));
        Due.yes("rule 1: a hidden class " + tree.getSimpleName(),
                !inside || !modifiers.contains(Modifier.PUBLIC) && !modifiers.contains(Modifier.PROTECTED));
        long fields = tree.getMembers().stream().filter(m -> m instanceof VariableTree v
                && !v.getModifiers().getFlags().contains(Modifier.STATIC)).count();
        Due.yes("rule 11: at most twenty fields of " + tree.getSimpleName(), fields <= 20);
        classes.push(tree);
        super.visitClass(tree, none);
        classes.pop();
        return null;
    }

    @Override
    public Void visitVariable(VariableTree tree, Void none) {
        Set<Modifier> modifiers = tree.getModifiers().getFlags();
        if (modifiers.contains(Modifier.STATIC)) {
            Due.yes("rule 5: static fields are final" + place(tree), modifiers.contains(Modifier.FINAL));
            Due.yes("rule 5: kind of static field" + place(tree), STATIC.contains(tree.getType().toString()));
        }
        boolean face = classes.size() == 1 && method == null;
        Due.yes("rule 1: hidden fields" + place(tree), !face || modifiers.contains(Modifier.PRIVATE)
                || tree.getName().contentEquals("NONE"));
        return super.visitVariable(tree, none);
    }

    @Override
    public Void visitMethod(MethodTree tree, Void none) {
        long from = unit.getLineMap().getLineNumber(places.getStartPosition(unit, tree));
        long to = unit.getLineMap().getLineNumber(places.getEndPosition(unit, tree));
        Due.yes("rule 11: at most sixty lines" + place(tree), to - from < 60);
        Due.yes("rule 11: at most seven parameters" + place(tree), tree.getParameters().size() <= 7);
        method = tree;
        calls.computeIfAbsent(tree.getName().toString(), n -> new HashSet<>());
        super.visitMethod(tree, none);
        method = null;
        return null;
    }

    @Override
    public Void visitMethodInvocation(MethodInvocationTree tree, Void none) {
        Tree called = tree.getMethodSelect();
        String name = called instanceof MemberSelectTree select ? select.getIdentifier().toString()
                : called.toString();
        if (method != null) {
            calls.get(method.getName().toString()).add(name);
        }
        Due.no("rule 4: none that ends in Exact" + place(tree), name.endsWith("Exact"));
        Due.no("rule 6: no equals, hashCode, toString" + place(tree), name.equals("hashCode"));
        return super.visitMethodInvocation(tree, none);
    }

    @Override
    public Void visitThrow(ThrowTree tree, Void none) {
        boolean made = tree.getExpression() instanceof NewClassTree;
        Due.yes("rule 6: throw new" + place(tree), made);
        if (tree.getExpression() instanceof NewClassTree one) {
            Due.yes("rule 6: class of the exception" + place(tree), EXCEPTIONS.contains(one.getIdentifier().toString()));
            Due.yes("rule 6: a written text" + place(tree),
                    one.getArguments().stream().allMatch(a -> a instanceof LiteralTree));
        }
        Due.no("rule 6: no throw in a constructor" + place(tree), method.getName().contentEquals("<init>"));
        return super.visitThrow(tree, none);
    }

    @Override
    public Void visitTry(TryTree tree, Void none) {
        Due.yes("rule 6: no finally" + place(tree), tree.getFinallyBlock() == null);
        Due.yes("rule 6: no resources" + place(tree), tree.getResources().isEmpty());
        return super.visitTry(tree, none);
    }

    @Override
    public Void visitBinary(BinaryTree tree, Void none) {
        boolean text = tree.getKind() == Tree.Kind.PLUS && (tree.getLeftOperand().getKind() == Tree.Kind.STRING_LITERAL
                || tree.getRightOperand().getKind() == Tree.Kind.STRING_LITERAL);
        Due.no("rule 10: texts joined by +" + place(tree), text);
        return super.visitBinary(tree, none);
    }

    @Override
    public Void visitIdentifier(IdentifierTree tree, Void none) {
        Set<String> banned = Set.of("Object", "Random", "Class", "Thread", "Runtime", "Optional", "Map", "Set",
                "HashMap", "Double", "Character", "Boolean", "Byte", "Short", "Float");
        Due.no("rule 4: library" + place(tree), banned.contains(tree.getName().toString()));
        return super.visitIdentifier(tree, none);
    }

    @Override
    public Void visitLambdaExpression(LambdaExpressionTree tree, Void none) {
        Due.wrong("rule 2: a lambda" + place(tree));
        return super.visitLambdaExpression(tree, none);
    }

    @Override
    public Void visitMemberReference(MemberReferenceTree tree, Void none) {
        Due.wrong("rule 2: a method reference" + place(tree));
        return super.visitMemberReference(tree, none);
    }

    @Override
    public Void visitSynchronized(SynchronizedTree tree, Void none) {
        Due.wrong("rule 6: synchronized" + place(tree));
        return super.visitSynchronized(tree, none);
    }

    @Override
    public Void visitAssert(AssertTree tree, Void none) {
        Due.wrong("rule 6: assert" + place(tree));
        return super.visitAssert(tree, none);
    }
}
