import com.sun.source.tree.BinaryTree;
import com.sun.source.tree.ClassTree;
import com.sun.source.tree.CompilationUnitTree;
import com.sun.source.tree.ImportTree;
import com.sun.source.tree.MethodInvocationTree;
import com.sun.source.tree.MethodTree;
import com.sun.source.tree.NewArrayTree;
import com.sun.source.tree.NewClassTree;
import com.sun.source.tree.Tree;
import com.sun.source.tree.VariableTree;
import com.sun.source.util.JavacTask;
import com.sun.source.util.SourcePositions;
import com.sun.source.util.TreePath;
import com.sun.source.util.TreePathScanner;
import com.sun.source.util.Trees;
import java.nio.file.Path;
import java.util.HashMap;
import java.util.HashSet;
import java.util.List;
import java.util.Map;
import java.util.Set;
import java.util.TreeSet;
import javax.lang.model.element.Element;
import javax.lang.model.element.Modifier;
import javax.tools.JavaCompiler;
import javax.tools.StandardJavaFileManager;
import javax.tools.ToolProvider;

/** What of LANGUAGE.md can be read off the source. */
public final class LanguageTest {
    private static final String SOURCE = "src/main/java/NinePence.java";
    private static final Check CHECK = new Check("LanguageTest");
    private static final Set<String> KINDS = Set.of("THROW", "TRY", "SYNCHRONIZED", "ASSERT", "LAMBDA_EXPRESSION",
        "MEMBER_REFERENCE", "INSTANCE_OF", "TYPE_PARAMETER", "ENHANCED_FOR_LOOP");
    private static final Set<String> LIBRARY = Set.of("String.length", "String.charAt", "Math.abs", "Math.min", "Math.max",
        "Math.floorMod", "Arrays.fill", "Object.<init>");
    private static final Set<String> FACE = Set.of("NONE", "UNKNOWN", "OUTSIDE", "NOT", "FULL", "<init>", "write", "erase",
        "fault", "book", "entry", "out", "off", "odds", "learn", "mend", "strike", "signs", "one", "ofKind", "two", "hide",
        "pair", "chance", "whose", "look", "mean", "judge", "other", "match", "count");

    private static final Map<Element, Set<Element>> CALLS = new HashMap<>();
    private static final Set<String> FOUND = new TreeSet<>();

    public static void main(String[] args) throws java.io.IOException {
        JavaCompiler compiler = ToolProvider.getSystemJavaCompiler();
        try (StandardJavaFileManager files = compiler.getStandardFileManager(null, null, null)) {
            JavacTask task = (JavacTask) compiler.getTask(null, files, null, List.of(), null,
                files.getJavaFileObjects(Path.of(SOURCE)));
            for (CompilationUnitTree unit : task.parse()) {
                task.analyze();
                new Scanner(Trees.instance(task), unit).scan(unit, null);
            }
        }
        int deepest = 0;
        for (Element method : CALLS.keySet()) {
            int depth = depth(method, new HashSet<>());
            deepest = Math.max(deepest, depth);
            if (depth > 8) {
                wrong(method + " goes " + depth + " calls deep");
            }
        }
        System.out.println("LanguageTest: " + CALLS.size() + " methods, calls at most " + deepest + " deep");
        for (String found : FOUND) {
            CHECK.due(found, 1, 0);
        }
        CHECK.due("methods were read", CALLS.size() > 50 ? 1 : 0, 1);
        CHECK.finish();
    }

    private static void wrong(String what) {
        FOUND.add(what);
    }

    private static int depth(Element method, Set<Element> open) {
        if (!open.add(method)) {
            wrong(method + " calls itself");
            return 1;
        }
        int deepest = 0;
        for (Element called : CALLS.getOrDefault(method, Set.of())) {
            if (CALLS.containsKey(called)) {
                deepest = Math.max(deepest, depth(called, open));
            }
        }
        open.remove(method);
        return deepest + 1;
    }

    private static final class Scanner extends TreePathScanner<Void, Void> {
        private final Trees trees;
        private final CompilationUnitTree unit;
        private int classes;

        Scanner(Trees trees, CompilationUnitTree unit) {
            this.trees = trees;
            this.unit = unit;
            if (unit.getPackageName() != null) {
                wrong("a package line");
            }
        }

        private long line(Tree tree, boolean end) {
            SourcePositions positions = trees.getSourcePositions();
            long place = end ? positions.getEndPosition(unit, tree) : positions.getStartPosition(unit, tree);
            return unit.getLineMap().getLineNumber(place);
        }

        private MethodTree methodAround() {
            for (TreePath path = getCurrentPath(); path != null; path = path.getParentPath()) {
                if (path.getLeaf() instanceof MethodTree) {
                    return (MethodTree) path.getLeaf();
                }
            }
            return null;
        }

        private Element methodElement() {
            for (TreePath path = getCurrentPath(); path != null; path = path.getParentPath()) {
                if (path.getLeaf() instanceof MethodTree) {
                    return trees.getElement(path);
                }
            }
            return null;
        }

        @Override
        public Void scan(Tree tree, Void nothing) {
            if (tree != null && KINDS.contains(tree.getKind().name())) {
                wrong(tree.getKind() + " in line " + line(tree, false));
            }
            return super.scan(tree, nothing);
        }

        @Override
        public Void visitImport(ImportTree tree, Void nothing) {
            if (!tree.getQualifiedIdentifier().toString().equals("java.util.Arrays")) {
                wrong("import of " + tree.getQualifiedIdentifier());
            }
            return null;
        }

        @Override
        public Void visitClass(ClassTree tree, Void nothing) {
            classes++;
            boolean outer = classes == 1;
            Set<Modifier> flags = tree.getModifiers().getFlags();
            if (classes > 12) {
                wrong("more than twelve classes");
            }
            if (!flags.contains(Modifier.FINAL) || !flags.contains(outer ? Modifier.PUBLIC : Modifier.STATIC)
                || !outer && !flags.contains(Modifier.PRIVATE)) {
                wrong("the modifiers of class " + tree.getSimpleName());
            }
            int fields = 0;
            for (Tree member : tree.getMembers()) {
                if (member instanceof VariableTree) {
                    VariableTree field = (VariableTree) member;
                    fields += checkField(field, outer) ? 1 : 0;
                }
            }
            if (fields > 20) {
                wrong("more than twenty fields in " + tree.getSimpleName());
            }
            return super.visitClass(tree, nothing);
        }

        private boolean checkField(VariableTree field, boolean outer) {
            Set<Modifier> flags = field.getModifiers().getFlags();
            boolean constant = flags.contains(Modifier.STATIC);
            if (constant && !flags.contains(Modifier.FINAL)) {
                wrong("static and not final: " + field.getName());
            }
            if (outer && !flags.contains(Modifier.PRIVATE) && !FACE.contains(field.getName().toString())) {
                wrong("not of the face: " + field.getName());
            }
            return !constant;
        }

        @Override
        public Void visitMethod(MethodTree tree, Void nothing) {
            String name = tree.getName().toString();
            Set<Modifier> flags = tree.getModifiers().getFlags();
            boolean outer = getCurrentPath().getParentPath().getParentPath().getLeaf() instanceof CompilationUnitTree;
            if (outer && FACE.contains(name) != flags.contains(Modifier.PUBLIC)) {
                wrong("face or not: " + name);
            }
            if (outer && !flags.contains(Modifier.PUBLIC) && !flags.contains(Modifier.PRIVATE)) {
                wrong("package-visible: " + name);
            }
            if (!outer && FACE.contains(name) && !name.equals("<init>")) {
                wrong("a name of the face again: " + name);
            }
            if (tree.getParameters().size() > 7) {
                wrong("more than seven parameters: " + name);
            }
            if (line(tree, true) - line(tree, false) >= 60) {
                wrong("more than sixty lines: " + name);
            }
            CALLS.computeIfAbsent(trees.getElement(getCurrentPath()), e -> new HashSet<>());
            return super.visitMethod(tree, nothing);
        }

        @Override
        public Void visitMethodInvocation(MethodInvocationTree tree, Void nothing) {
            Element called = trees.getElement(getCurrentPath());
            String owner = called.getEnclosingElement().getSimpleName().toString();
            String name = owner + "." + called.getSimpleName();
            boolean own = called.getEnclosingElement().toString().startsWith("NinePence");
            if (!own && !LIBRARY.contains(name)) {
                wrong("not of the library: " + name);
            }
            Element caller = methodElement();
            if (caller != null) {
                CALLS.computeIfAbsent(caller, e -> new HashSet<>()).add(called);
            }
            return super.visitMethodInvocation(tree, nothing);
        }

        // All rows are made with the object, so that no call takes room.
        @Override
        public Void visitNewArray(NewArrayTree tree, Void nothing) {
            if (methodAround() != null) {
                wrong("a new row in line " + line(tree, false));
            }
            return super.visitNewArray(tree, nothing);
        }

        @Override
        public Void visitNewClass(NewClassTree tree, Void nothing) {
            if (methodAround() != null || tree.getClassBody() != null) {
                wrong("a new object in line " + line(tree, false));
            }
            return super.visitNewClass(tree, nothing);
        }

        @Override
        public Void visitBinary(BinaryTree tree, Void nothing) {
            boolean text = tree.getKind() == Tree.Kind.PLUS
                && trees.getTypeMirror(getCurrentPath()).toString().equals("java.lang.String");
            if (text) {
                wrong("texts joined by + in line " + line(tree, false));
            }
            return super.visitBinary(tree, nothing);
        }
    }
}
