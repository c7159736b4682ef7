import com.sun.source.tree.ClassTree;
import com.sun.source.tree.CompilationUnitTree;
import com.sun.source.tree.ForLoopTree;
import com.sun.source.tree.LiteralTree;
import com.sun.source.tree.MethodInvocationTree;
import com.sun.source.tree.MethodTree;
import com.sun.source.tree.NewClassTree;
import com.sun.source.tree.PrimitiveTypeTree;
import com.sun.source.tree.ThrowTree;
import com.sun.source.tree.Tree;
import com.sun.source.tree.VariableTree;
import com.sun.source.util.JavacTask;
import com.sun.source.util.TreePathScanner;
import com.sun.source.util.Trees;
import java.io.File;
import java.io.IOException;
import java.util.ArrayDeque;
import java.util.Deque;
import java.util.EnumSet;
import java.util.HashSet;
import java.util.List;
import java.util.Map;
import java.util.Set;
import java.util.TreeMap;
import java.util.TreeSet;
import javax.lang.model.element.Element;
import javax.lang.model.element.ElementKind;
import javax.lang.model.element.Modifier;
import javax.tools.JavaCompiler;
import javax.tools.StandardJavaFileManager;
import javax.tools.ToolProvider;

/** What a reader of the source can tell of the rules of LANGUAGE.md, with the eyes of the compiler. */
public final class LanguageTest extends TreePathScanner<Void, Void> {
    private static final Set<String> FACE = Set.of("link", "make", "set", "cut", "drop", "copy", "alike", "at", "back",
        "ask", "size", "way", "path", "begin", "end", "count");
    private static final Set<String> LIBRARY = Set.of("java.lang.System.arraycopy");
    // The document's face asks for ClassCastException, which rule 6 does not list.
    private static final Set<String> MAY_BE_THROWN = Set.of("IllegalStateException", "IllegalArgumentException",
        "IndexOutOfBoundsException", "UnsupportedOperationException", "NoSuchElementException", "ClassCastException");
    private static final Set<String> STATIC_TYPES = Set.of("int", "long", "boolean", "char", "String");
    private static final Set<Tree.Kind> NOT_THERE = EnumSet.of(Tree.Kind.LAMBDA_EXPRESSION, Tree.Kind.MEMBER_REFERENCE,
        Tree.Kind.TRY, Tree.Kind.SYNCHRONIZED, Tree.Kind.ASSERT, Tree.Kind.WHILE_LOOP, Tree.Kind.DO_WHILE_LOOP,
        Tree.Kind.DIVIDE_ASSIGNMENT, Tree.Kind.REMAINDER_ASSIGNMENT, Tree.Kind.DOUBLE_LITERAL, Tree.Kind.FLOAT_LITERAL,
        Tree.Kind.INSTANCE_OF, Tree.Kind.ANNOTATION, Tree.Kind.YIELD, Tree.Kind.SWITCH_EXPRESSION);

    private final Due due = new Due("LanguageTest");
    private final CompilationUnitTree unit;
    private final Trees trees;
    private final Map<String, Set<String>> calls = new TreeMap<>();
    private final Deque<String> inMethod = new ArrayDeque<>();
    private int classes;

    private LanguageTest(CompilationUnitTree unit, Trees trees) {
        this.unit = unit;
        this.trees = trees;
    }

    public static void main(String[] args) throws IOException {
        JavaCompiler compiler = ToolProvider.getSystemJavaCompiler();
        try (StandardJavaFileManager files = compiler.getStandardFileManager(null, null, null)) {
            File source = new File(System.getProperty("twinlinks.source"));
            List<String> options = List.of("-proc:none");
            JavacTask task = (JavacTask) compiler.getTask(null, files, null, options, null,
                files.getJavaFileObjects(source));
            CompilationUnitTree unit = task.parse().iterator().next();
            task.analyze();
            new LanguageTest(unit, Trees.instance(task)).lookAtAll();
        }
    }

    private void lookAtAll() throws IOException {
        String text = unit.getSourceFile().getCharContent(true).toString();
        due.same("characters below 128", true, text.chars().allMatch(c -> c < 128));
        due.same("a package line", true, unit.getPackage() == null);
        due.same("imports", "[import java.util.NoSuchElementException;]",
            unit.getImports().stream().map(each -> each.toString().strip()).toList().toString());
        scan(unit, null);
        due.same("rule 11: at most twelve classes", true, classes <= 12);
        for (String each : calls.keySet()) {
            due.same("rule 11: calls at most eight deep from " + each, true, depth(each, new HashSet<>()) <= 8);
        }
        due.close();
    }

    @Override
    public Void scan(Tree tree, Void none) {
        due.same("a tree that has no place here: " + tree, false, tree != null && NOT_THERE.contains(tree.getKind()));
        return super.scan(tree, none);
    }

    @Override
    public Void visitClass(ClassTree tree, Void none) {
        classes++;
        String name = tree.getSimpleName().toString();
        Set<Modifier> flags = name.equals("TwinLinks")
            ? EnumSet.of(Modifier.PUBLIC, Modifier.FINAL)
            : EnumSet.of(Modifier.PRIVATE, Modifier.STATIC, Modifier.FINAL);
        due.same("rules 1 and 2: modifiers of " + name, flags, tree.getModifiers().getFlags());
        due.same("rule 2: superclass of " + name, true, tree.getExtendsClause() == null);
        long fields = tree.getMembers().stream().filter(LanguageTest::isFieldOfObjects).count();
        due.same("rule 11: some twenty fields in " + name, true, fields <= 20);
        for (Tree member : tree.getMembers()) {
            due.same("rule 5: no initialiser block in " + name, false, member.getKind() == Tree.Kind.BLOCK);
            if (member instanceof VariableTree field) {
                lookAtField(field);
            }
        }
        return super.visitClass(tree, none);
    }

    private static boolean isFieldOfObjects(Tree member) {
        return member instanceof VariableTree field && !field.getModifiers().getFlags().contains(Modifier.STATIC);
    }

    private void lookAtField(VariableTree field) {
        Set<Modifier> flags = field.getModifiers().getFlags();
        due.same("rule 1: private " + field, true, flags.contains(Modifier.PRIVATE));
        if (flags.contains(Modifier.STATIC)) {
            due.same("rule 5: final " + field, true, flags.contains(Modifier.FINAL));
            due.same("rule 5: the type of " + field, true, STATIC_TYPES.contains(field.getType().toString()));
        }
    }

    @Override
    public Void visitMethod(MethodTree tree, Void none) {
        Element method = trees.getElement(getCurrentPath());
        String name = fullName(method);
        boolean ofTheFace = FACE.contains(tree.getName().toString());
        boolean open = tree.getModifiers().getFlags().contains(Modifier.PUBLIC);
        due.same("rule 1: the name of " + name, ofTheFace || name.equals("TwinLinks.<init>"), open);
        due.same("rule 11: parameters of " + name, true, tree.getParameters().size() <= 7);
        due.same("rule 11: lines of " + name, true, lines(tree) <= 60);
        calls.putIfAbsent(name, new TreeSet<>());
        inMethod.push(name);
        super.visitMethod(tree, none);
        inMethod.pop();
        return null;
    }

    private long lines(Tree tree) {
        long first = trees.getSourcePositions().getStartPosition(unit, tree);
        long last = trees.getSourcePositions().getEndPosition(unit, tree);
        return unit.getLineMap().getLineNumber(last) - unit.getLineMap().getLineNumber(first) + 1;
    }

    @Override
    public Void visitMethodInvocation(MethodInvocationTree tree, Void none) {
        noteCall(trees.getElement(getCurrentPath()));
        return super.visitMethodInvocation(tree, none);
    }

    @Override
    public Void visitNewClass(NewClassTree tree, Void none) {
        due.same("rule 2: no anonymous class: " + tree, true, tree.getClassBody() == null);
        noteCall(trees.getElement(getCurrentPath()));
        return super.visitNewClass(tree, none);
    }

    private void noteCall(Element called) {
        String name = fullName(called);
        if (name.startsWith("TwinLinks.")) {
            calls.computeIfAbsent(inMethod.element(), each -> new TreeSet<>()).add(name);
        } else {
            boolean thrown = called.getKind() == ElementKind.CONSTRUCTOR
                && MAY_BE_THROWN.contains(called.getEnclosingElement().getSimpleName().toString());
            boolean ofObject = name.equals("java.lang.Object.<init>");
            due.same("rule 4: " + name + " is in the list", true, thrown || ofObject || LIBRARY.contains(name));
        }
    }

    @Override
    public Void visitThrow(ThrowTree tree, Void none) {
        boolean plain = tree.getExpression() instanceof NewClassTree made && made.getArguments().size() == 1
            && made.getArguments().get(0) instanceof LiteralTree;
        due.same("rule 6: a new one with a written text: " + tree, true, plain);
        due.same("rule 6: no throw in a constructor: " + tree, false, inMethod.element().endsWith("<init>"));
        return super.visitThrow(tree, none);
    }

    @Override
    public Void visitPrimitiveType(PrimitiveTypeTree tree, Void none) {
        due.same("rule 3: only whole numbers: " + tree, true, !Set.of("double", "float").contains(tree.toString()));
        return super.visitPrimitiveType(tree, none);
    }

    @Override
    public Void visitForLoop(ForLoopTree tree, Void none) {
        due.same("rule 9: a counter against a bound: " + tree, true,
            tree.getCondition() != null && tree.getInitializer().size() == 1 && tree.getUpdate().size() == 1);
        return super.visitForLoop(tree, none);
    }

    private static String fullName(Element method) {
        return method.getEnclosingElement() + "." + method.getSimpleName();
    }

    private int depth(String method, Set<String> open) {
        boolean again = !open.add(method);
        due.same("rule 8: " + method + " calls itself", false, again);
        int deepest = 0;
        for (String called : again ? Set.<String>of() : calls.getOrDefault(method, Set.of())) {
            deepest = Math.max(deepest, depth(called, open));
        }
        open.remove(method);
        return deepest + 1;
    }
}
