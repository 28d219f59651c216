import com.sun.source.tree.BinaryTree;
import com.sun.source.tree.ClassTree;
import com.sun.source.tree.CompilationUnitTree;
import com.sun.source.tree.CompoundAssignmentTree;
import com.sun.source.tree.MethodInvocationTree;
import com.sun.source.tree.MethodTree;
import com.sun.source.tree.NewArrayTree;
import com.sun.source.tree.NewClassTree;
import com.sun.source.tree.Tree;
import com.sun.source.tree.VariableTree;
import com.sun.source.util.JavacTask;
import com.sun.source.util.TreePath;
import com.sun.source.util.TreePathScanner;
import com.sun.source.util.Trees;
import java.nio.charset.StandardCharsets;
import java.nio.file.Files;
import java.nio.file.Path;
import java.util.List;
import java.util.Map;
import java.util.Set;
import java.util.TreeMap;
import java.util.TreeSet;
import javax.lang.model.element.Element;
import javax.lang.model.element.ExecutableElement;
import javax.lang.model.element.Modifier;
import javax.tools.JavaCompiler;
import javax.tools.StandardJavaFileManager;
import javax.tools.ToolProvider;

/** LANGUAGE.md's rules, each by its number, as the compiler's own tree of the program shows them. */
public final class LanguageTest extends TreePathScanner<Void, Void> {
    private static final Path SOURCE = Path.of("src/main/java/WebCourt.java");
    // What may not stand in the program, with the rule that says so (7: where nothing is null, nothing need be tested).
    private static final Map<Tree.Kind, Integer> BANNED = Map.of(Tree.Kind.THROW, 6, Tree.Kind.TRY, 6,
            Tree.Kind.CATCH, 6, Tree.Kind.SYNCHRONIZED, 6, Tree.Kind.ASSERT, 6, Tree.Kind.LAMBDA_EXPRESSION, 2,
            Tree.Kind.MEMBER_REFERENCE, 2, Tree.Kind.NULL_LITERAL, 7, Tree.Kind.IMPORT, 4, Tree.Kind.ANNOTATION, 4);
    // What the program takes of the list of rule 4; the test grows with it.
    private static final Set<String> LIBRARY = Set.of("java.lang.String.length", "java.lang.String.charAt",
            "java.lang.String.indexOf", "java.lang.Math.max", "java.lang.Math.min", "java.lang.Integer.bitCount",
            "java.lang.Integer.compare", "java.lang.Object.<init>");
    private static final Set<String> TYPES = Set.of("int", "long", "byte", "char", "boolean", "void", "java.lang.String");
    private static final int DEEPEST = 8;
    private static final int MOST_OPEN = 300;
    private static final int LEVELS = 8;

    private final Trees trees;
    private final CompilationUnitTree unit;
    private final Set<String> publicNames = new TreeSet<>();
    private final Map<String, Set<String>> calls = new TreeMap<>();
    private final Map<String, String> signatures = new TreeMap<>();
    private String method = "";
    private int classes = 0;

    private LanguageTest(Trees trees, CompilationUnitTree unit) {
        this.trees = trees;
        this.unit = unit;
    }

    public static void main(String[] args) throws Exception {
        lines(Files.readAllLines(SOURCE, StandardCharsets.US_ASCII));
        JavaCompiler compiler = ToolProvider.getSystemJavaCompiler();
        try (StandardJavaFileManager files = compiler.getStandardFileManager(null, null, null)) {
            JavacTask task = (JavacTask) compiler.getTask(null, files, null, List.of("-proc:none"), null,
                    files.getJavaFileObjects(SOURCE));
            CompilationUnitTree unit = task.parse().iterator().next();
            task.analyze();
            LanguageTest test = new LanguageTest(Trees.instance(task), unit);
            test.namePublic();
            test.scan(unit, null);
            test.depth();
        }
        Check.finish();
    }

    private static void lines(List<String> lines) {
        for (int i = 0; i < lines.size(); i++) {
            Check.due("line " + (i + 1) + " has more than 120 signs", lines.get(i).length() > 120, false);
        }
    }

    private void rule(int number, String what, boolean kept) {
        Check.due("rule " + number + ", " + method + ": " + what, kept, true);
    }

    private void namePublic() {
        ClassTree top = (ClassTree) unit.getTypeDecls().get(0);
        rule(1, "one class in the file, without a package",
                unit.getTypeDecls().size() == 1 && unit.getPackageName() == null);
        for (Tree member : top.getMembers()) {
            if (member instanceof MethodTree m && m.getModifiers().getFlags().contains(Modifier.PUBLIC)) {
                publicNames.add(m.getName().toString());
            }
        }
    }

    @Override
    public Void scan(Tree tree, Void nothing) {
        if (tree != null && BANNED.containsKey(tree.getKind())) {
            rule(BANNED.get(tree.getKind()), "has " + tree, false);
        }
        return super.scan(tree, nothing);
    }

    @Override
    public Void visitClass(ClassTree tree, Void nothing) {
        method = tree.getSimpleName().toString();
        classes++;
        boolean top = classes == 1;
        Set<Modifier> flags = tree.getModifiers().getFlags();
        rule(2, "a class inside is static", top || flags.contains(Modifier.STATIC));
        rule(1, "a class inside is not seen outside", top || !flags.contains(Modifier.PUBLIC));
        rule(2, "a class has a name", tree.getSimpleName().length() > 0);
        int fields = 0;
        for (Tree member : tree.getMembers()) {
            rule(5, "no initialiser block", member.getKind() != Tree.Kind.BLOCK);
            if (member instanceof VariableTree field) {
                boolean fixed = field.getModifiers().getFlags().contains(Modifier.STATIC);
                fields += fixed ? 0 : 1;
                rule(5, "static " + field.getName() + " is final",
                        !fixed || field.getModifiers().getFlags().contains(Modifier.FINAL));
            }
        }
        rule(11, "has some twenty fields", fields <= 20);
        rule(11, "is one of some twelve classes", classes <= 12);
        return super.visitClass(tree, nothing);
    }

    @Override
    public Void visitMethod(MethodTree tree, Void nothing) {
        ExecutableElement element = (ExecutableElement) trees.getElement(getCurrentPath());
        method = nameOf(element);
        calls.computeIfAbsent(method, key -> new TreeSet<>());
        signatures.put(method, tree.getParameters().toString());
        boolean hidden = !tree.getModifiers().getFlags().contains(Modifier.PUBLIC);
        boolean likePublic = tree.getReturnType() != null && publicNames.contains(tree.getName().toString());
        rule(1, "bears no public one's name", !hidden || !likePublic);
        rule(11, "takes seven parameters at most", tree.getParameters().size() <= 7);
        rule(3, "answers " + element.getReturnType(), isAllowed(element.getReturnType().toString()));
        rule(11, "has some sixty lines", lineOf(tree, false) - lineOf(tree, true) <= 60);
        return super.visitMethod(tree, nothing);
    }

    private long lineOf(Tree tree, boolean first) {
        long place = first ? trees.getSourcePositions().getStartPosition(unit, tree)
                : trees.getSourcePositions().getEndPosition(unit, tree);
        return unit.getLineMap().getLineNumber(place);
    }

    @Override
    public Void visitVariable(VariableTree tree, Void nothing) {
        rule(3, "holds " + tree, isAllowed(trees.getElement(getCurrentPath()).asType().toString()));
        return super.visitVariable(tree, nothing);
    }

    private static boolean isAllowed(String type) {
        String one = type.replace("[]", "");
        boolean number = one.equals("int") || one.equals("long") || one.equals("byte");
        int dimensions = (type.length() - one.length()) / 2;
        boolean known = TYPES.contains(one) || one.startsWith("WebCourt.");
        return known && (dimensions <= 1 || dimensions == 2 && number);
    }

    @Override
    public Void visitBinary(BinaryTree tree, Void nothing) {
        boolean texts = isText(tree.getLeftOperand()) || isText(tree.getRightOperand());
        rule(10, "joins or compares no texts by a sign: " + tree, !texts);
        return super.visitBinary(tree, nothing);
    }

    @Override
    public Void visitCompoundAssignment(CompoundAssignmentTree tree, Void nothing) {
        rule(10, "joins no texts by a sign: " + tree, !isText(tree.getVariable()));
        return super.visitCompoundAssignment(tree, nothing);
    }

    private boolean isText(Tree tree) {
        return trees.getTypeMirror(new TreePath(getCurrentPath(), tree)).toString().equals("java.lang.String");
    }

    @Override
    public Void visitMethodInvocation(MethodInvocationTree tree, Void nothing) {
        String called = nameOf(trees.getElement(getCurrentPath()));
        if (called.startsWith("WebCourt")) {
            calls.get(method).add(called);
        } else {
            rule(4, "calls " + called, LIBRARY.contains(called));
        }
        return super.visitMethodInvocation(tree, nothing);
    }

    @Override
    public Void visitNewClass(NewClassTree tree, Void nothing) {
        rule(12, "makes " + tree + " in a constructor alone", isMaking());
        rule(2, "no class without a name", tree.getClassBody() == null);
        return super.visitNewClass(tree, nothing);
    }

    @Override
    public Void visitNewArray(NewArrayTree tree, Void nothing) {
        rule(12, "makes " + tree + " in a constructor alone", isMaking());
        return super.visitNewArray(tree, nothing);
    }

    // A field's own "= new .." stands ahead of all methods of its class, where the class's name is kept.
    private boolean isMaking() {
        return method.endsWith(".<init>") || !method.contains(".");
    }

    private static String nameOf(Element element) {
        return element.getEnclosingElement() + "." + element.getSimpleName();
    }

    /** Rules 8 and 11: calls that are no recursion go eight deep, and a recursion carries its depth. */
    private void depth() {
        Map<String, Set<String>> reached = new TreeMap<>();
        for (String name : calls.keySet()) {
            Set<String> all = new TreeSet<>();
            reach(name, all);
            reached.put(name, all);
        }
        int ring = 0;
        for (String name : calls.keySet()) {
            method = name;
            if (reached.get(name).contains(name)) {
                ring++;
                rule(8, "carries its depth", signatures.get(name).contains("int within"));
            }
        }
        for (String name : calls.keySet()) {
            method = name;
            rule(11, "goes eight calls deep at most", deepest(name, reached) <= DEEPEST);
        }
        method = "recursion";
        rule(8, "few calls stand open at once", LEVELS * ring + DEEPEST < MOST_OPEN);
    }

    private void reach(String name, Set<String> all) {
        for (String called : calls.get(name)) {
            if (all.add(called)) {
                reach(called, all);
            }
        }
    }

    /** The calls from here on; all that call one another count once. */
    private int deepest(String name, Map<String, Set<String>> reached) {
        int most = 0;
        Set<String> ring = new TreeSet<>(Set.of(name));
        for (String other : reached.get(name)) {
            if (reached.get(other).contains(name)) {
                ring.add(other);
            }
        }
        for (String member : ring) {
            for (String called : calls.get(member)) {
                most = Math.max(most, ring.contains(called) ? 0 : deepest(called, reached));
            }
        }
        return most + 1;
    }
}
