import com.sun.source.tree.BinaryTree;
import com.sun.source.tree.ClassTree;
import com.sun.source.tree.CompilationUnitTree;
import com.sun.source.tree.IdentifierTree;
import com.sun.source.tree.LineMap;
import com.sun.source.tree.LiteralTree;
import com.sun.source.tree.MemberSelectTree;
import com.sun.source.tree.MethodTree;
import com.sun.source.tree.NewArrayTree;
import com.sun.source.tree.NewClassTree;
import com.sun.source.tree.Tree;
import com.sun.source.tree.TypeCastTree;
import com.sun.source.tree.VariableTree;
import com.sun.source.util.JavacTask;
import com.sun.source.util.TreePath;
import com.sun.source.util.TreePathScanner;
import com.sun.source.util.Trees;
import java.io.IOException;
import java.nio.file.Files;
import java.nio.file.Path;
import java.util.EnumSet;
import java.util.HashMap;
import java.util.HashSet;
import java.util.List;
import java.util.Map;
import java.util.Set;
import java.util.TreeSet;
import javax.lang.model.element.Element;
import javax.lang.model.element.ElementKind;
import javax.lang.model.element.Modifier;
import javax.lang.model.type.TypeMirror;
import javax.tools.JavaCompiler;
import javax.tools.StandardJavaFileManager;
import javax.tools.ToolProvider;

/** The rules of LANGUAGE.md that can be seen in the program's tree, as javac reads it. */
public final class LanguageTest {

    private static final Checks C = new Checks("LanguageTest");

    /** What of the library the program uses: it all stands in rule 4. */
    private static final Set<String> LIBRARY = Set.of("Integer.bitCount", "Math.abs",
            "Math.floorDiv", "Math.max", "Math.min", "String.charAt", "String.length",
            "System.arraycopy");

    /** No Object but as what all classes extend; no double: the program has no need of one. */
    private static final Set<String> TYPES = Set.of("int", "long", "byte", "short", "boolean",
            "void", "int[]", "long[]", "java.lang.String");

    /** Rules 2, 3, 6 and 10. */
    private static final Set<Tree.Kind> BANNED = EnumSet.of(Tree.Kind.THROW, Tree.Kind.TRY,
            Tree.Kind.CATCH, Tree.Kind.SYNCHRONIZED, Tree.Kind.ASSERT, Tree.Kind.IMPORT,
            Tree.Kind.PACKAGE, Tree.Kind.LAMBDA_EXPRESSION, Tree.Kind.MEMBER_REFERENCE,
            Tree.Kind.INSTANCE_OF, Tree.Kind.DOUBLE_LITERAL, Tree.Kind.FLOAT_LITERAL,
            Tree.Kind.ANNOTATION, Tree.Kind.SWITCH_EXPRESSION);

    private static final int MOST_DEEP = 8;
    private static final int MOST_LINES = 60;

    private final Trees trees;
    private final CompilationUnitTree unit;
    private final LineMap lines;
    private final Map<String, Set<String>> calls = new HashMap<>();
    private final Set<String> recursive = new TreeSet<>();

    private LanguageTest(JavacTask task, CompilationUnitTree unit) {
        this.trees = Trees.instance(task);
        this.unit = unit;
        this.lines = unit.getLineMap();
    }

    public static void main(String[] args) throws IOException {
        Path source = Path.of(args.length > 0 ? args[0] : "src/main/java/FairLines.java");
        long wide = Files.readAllLines(source).stream().filter(line -> line.length() > 100).count();
        C.due("lines of more than a hundred signs", wide, 0);
        JavaCompiler compiler = ToolProvider.getSystemJavaCompiler();
        try (StandardJavaFileManager files = compiler.getStandardFileManager(null, null, null)) {
            JavacTask task = (JavacTask) compiler.getTask(null, files, null, List.of("-proc:none"),
                    null, files.getJavaFileObjects(source));
            CompilationUnitTree unit = task.parse().iterator().next();
            task.analyze();
            LanguageTest test = new LanguageTest(task, unit);
            test.new Reader().scan(unit, null);
            test.depths();
        }
        C.end();
    }

    /** Recursion is rule 8's; all other calls are counted from the face's own one on. */
    private void depths() {
        C.sentence("calls that are no recursion go at most eight deep");
        for (String method : new TreeSet<>(calls.keySet())) {
            int deep = depthOf(method, new HashSet<>());
            C.due(method + " goes " + deep + " deep", deep <= MOST_DEEP, true);
        }
        C.sentence("Recursion: a private static method that calls itself .. a guard on the depth");
        C.due("only LEAST's search calls itself, not " + recursive,
                recursive.equals(Set.of("FairLines.Mender.tryFrom")), true);
    }

    private int depthOf(String method, Set<String> open) {
        if (!open.add(method)) {
            recursive.add(method);
            return 0;
        }
        int deepest = 0;
        for (String called : calls.getOrDefault(method, Set.of())) {
            deepest = Math.max(deepest, depthOf(called, open));
        }
        open.remove(method);
        return deepest + 1;
    }

    private static String outermost(Element element) {
        Element at = element;
        while (at.getEnclosingElement() != null
                && at.getEnclosingElement().getKind() != ElementKind.PACKAGE) {
            at = at.getEnclosingElement();
        }
        return at.getSimpleName().toString();
    }

    private static boolean isOwn(Element element) {
        return outermost(element).equals("FairLines");
    }

    private static String nameOf(Element method) {
        return method.getEnclosingElement() + "." + method.getSimpleName();
    }

    private static String shortName(Element member) {
        return member.getEnclosingElement().getSimpleName() + "." + member.getSimpleName();
    }

    /** Walks the tree and tells what the rules have not. */
    private final class Reader extends TreePathScanner<Void, Void> {

        private String method = "";
        private boolean isMaking = true;

        private String place(Tree tree) {
            long start = trees.getSourcePositions().getStartPosition(unit, tree);
            return "line " + lines.getLineNumber(start) + ": " + tree;
        }

        private void none(boolean is, Tree tree) {
            C.due(place(tree), is, false);
        }

        @Override
        public Void scan(Tree tree, Void nothing) {
            if (tree != null && BANNED.contains(tree.getKind())) {
                C.sentence("Rules 2, 3, 6, 10: what the program has not");
                none(true, tree);
            }
            return super.scan(tree, nothing);
        }

        @Override
        public Void visitClass(ClassTree tree, Void nothing) {
            boolean isOutermost = getCurrentPath().getParentPath().getLeaf() == unit;
            Set<Modifier> flags = tree.getModifiers().getFlags();
            C.sentence("Classes inside: static nested classes");
            C.due(tree.getSimpleName() + " is static",
                    isOutermost || flags.contains(Modifier.STATIC), true);
            C.due(tree.getSimpleName() + " stands in a class",
                    isOutermost || getCurrentPath().getParentPath().getLeaf() instanceof ClassTree,
                    true);
            return super.visitClass(tree, nothing);
        }

        @Override
        public Void visitMethod(MethodTree tree, Void nothing) {
            long start = trees.getSourcePositions().getStartPosition(unit, tree);
            long end = trees.getSourcePositions().getEndPosition(unit, tree);
            // One that nobody wrote has no place.
            if (end > start) {
                long many = lines.getLineNumber(end) - lines.getLineNumber(start) + 1;
                C.sentence("Methods stay short (some sixty lines)");
                C.due(tree.getName() + " has " + many + " lines", many <= MOST_LINES, true);
            }
            C.sentence("A method takes at most seven parameters");
            C.due(tree.getName() + " takes " + tree.getParameters().size(),
                    tree.getParameters().size() <= 7, true);
            Element element = trees.getElement(getCurrentPath());
            String outer = method;
            method = nameOf(element);
            isMaking = element.getKind() == ElementKind.CONSTRUCTOR;
            calls.putIfAbsent(method, new HashSet<>());
            super.visitMethod(tree, nothing);
            method = outer;
            isMaking = true;
            return null;
        }

        @Override
        public Void visitIdentifier(IdentifierTree tree, Void nothing) {
            look(trees.getElement(getCurrentPath()), tree);
            return super.visitIdentifier(tree, nothing);
        }

        @Override
        public Void visitMemberSelect(MemberSelectTree tree, Void nothing) {
            look(trees.getElement(getCurrentPath()), tree);
            return super.visitMemberSelect(tree, nothing);
        }

        /** What a name stands for: a method called, a field read, or less. */
        private void look(Element element, Tree tree) {
            if (element == null) {
                return;
            }
            boolean isMethod = element.getKind() == ElementKind.METHOD;
            boolean isField = element.getKind().isField() && !tree.toString().endsWith(".length")
                    && !tree.toString().equals("this");
            if (isMethod && isOwn(element)) {
                calls.computeIfAbsent(method, m -> new HashSet<>()).add(nameOf(element));
            } else if (isMethod || (isField && !isOwn(element))) {
                C.sentence("The library: only what stands here");
                C.due(place(tree), LIBRARY.contains(shortName(element)), true);
            }
        }

        @Override
        public Void visitVariable(VariableTree tree, Void nothing) {
            typed(trees.getTypeMirror(new TreePath(getCurrentPath(), tree.getType())), tree);
            Element element = trees.getElement(getCurrentPath());
            if (element.getModifiers().contains(Modifier.STATIC)) {
                C.sentence("Static fields are final: constants of int, long, boolean, char or String");
                C.due(place(tree), element.getModifiers().contains(Modifier.FINAL)
                        && element.asType().getKind().isPrimitive(), true);
            }
            return super.visitVariable(tree, nothing);
        }

        private void typed(TypeMirror type, Tree tree) {
            C.sentence("Types: int, long ..; arrays of these and of your own classes");
            String name = type.toString();
            C.due(place(tree), TYPES.contains(name) || name.startsWith("FairLines."), true);
        }

        @Override
        public Void visitTypeCast(TypeCastTree tree, Void nothing) {
            C.sentence("casts among your own classes: only behind the test that makes them safe");
            TypeMirror type = trees.getTypeMirror(new TreePath(getCurrentPath(), tree.getType()));
            C.due(place(tree), type.getKind().isPrimitive(), true);
            return super.visitTypeCast(tree, nothing);
        }

        @Override
        public Void visitBinary(BinaryTree tree, Void nothing) {
            C.sentence("joining texts by StringBuilder (not by +); == never between two Strings");
            boolean isText = isText(tree.getLeftOperand()) || isText(tree.getRightOperand());
            none(isText, tree);
            return super.visitBinary(tree, nothing);
        }

        private boolean isText(Tree operand) {
            TypeMirror type = trees.getTypeMirror(new TreePath(getCurrentPath(), operand));
            return type != null && type.toString().equals("java.lang.String");
        }

        @Override
        public Void visitLiteral(LiteralTree tree, Void nothing) {
            if (tree.getValue() instanceof String text) {
                C.sentence("String: constants, whose signs are 1 to 127");
                C.due(place(tree), text.chars().allMatch(sign -> sign >= 1 && sign <= 127), true);
            }
            return super.visitLiteral(tree, nothing);
        }

        @Override
        public Void visitNewClass(NewClassTree tree, Void nothing) {
            C.sentence("make rows in constructors and use them again");
            C.due(place(tree), isMaking, true);
            C.sentence("no local or anonymous class");
            none(tree.getClassBody() != null, tree);
            return super.visitNewClass(tree, nothing);
        }

        @Override
        public Void visitNewArray(NewArrayTree tree, Void nothing) {
            C.sentence("make rows in constructors and use them again");
            C.due(place(tree), isMaking, true);
            return super.visitNewArray(tree, nothing);
        }
    }
}
