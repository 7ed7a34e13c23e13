import com.sun.source.tree.ClassTree;
import com.sun.source.tree.CompilationUnitTree;
import com.sun.source.tree.MethodInvocationTree;
import com.sun.source.tree.MethodTree;
import com.sun.source.tree.ModifiersTree;
import com.sun.source.tree.NewClassTree;
import com.sun.source.tree.Tree;
import com.sun.source.tree.Tree.Kind;
import com.sun.source.tree.VariableTree;
import com.sun.source.util.JavacTask;
import com.sun.source.util.TreePath;
import com.sun.source.util.TreePathScanner;
import com.sun.source.util.Trees;
import java.io.IOException;
import java.util.EnumSet;
import java.util.HashMap;
import java.util.LinkedHashMap;
import java.util.LinkedHashSet;
import java.util.List;
import java.util.Map;
import java.util.Set;
import javax.lang.model.element.Element;
import javax.lang.model.element.Modifier;
import javax.tools.JavaCompiler;
import javax.tools.StandardJavaFileManager;
import javax.tools.ToolProvider;

/** The rules of LANGUAGE.md that can be read off the source of the class, as javac itself reads it. */
public final class LanguageTest {
    private static final String SOURCE = "src/main/java/RatePlanner.java";
    private static final int MOST_CLASSES = 12, MOST_FIELDS = 20, MOST_PARAMETERS = 7, MOST_LINES = 60, MOST_DEPTH = 8;
    private static final Set<Kind> FORBIDDEN = EnumSet.of(Kind.THROW, Kind.TRY, Kind.CATCH, Kind.SYNCHRONIZED, Kind.ASSERT,
        Kind.LAMBDA_EXPRESSION, Kind.MEMBER_REFERENCE, Kind.IMPORT, Kind.PACKAGE, Kind.ANNOTATION);
    private static final Set<Modifier> MODIFIERS = EnumSet.of(Modifier.PUBLIC, Modifier.PRIVATE, Modifier.STATIC,
        Modifier.FINAL);
    private static final Set<String> OF_OBJECTS = Set.of("equals", "hashCode", "toString");
    private static final Set<String> LIBRARY = Set.of("Math.abs", "Math.max", "Math.min", "System.arraycopy");

    private final CompilationUnitTree unit;
    private final Trees trees;
    private final Map<Element, Set<Element>> calls = new LinkedHashMap<>();
    private final Map<Element, Integer> depths = new HashMap<>();
    private int classes = 0;

    private LanguageTest(CompilationUnitTree unit, Trees trees) {
        this.unit = unit;
        this.trees = trees;
    }

    public static void main(String[] args) throws IOException {
        JavaCompiler compiler = ToolProvider.getSystemJavaCompiler();
        try (StandardJavaFileManager files = compiler.getStandardFileManager(null, null, null)) {
            JavacTask task = (JavacTask) compiler.getTask(null, files, null, List.of("-proc:none"), null,
                files.getJavaFileObjects(SOURCE));
            CompilationUnitTree unit = task.parse().iterator().next();
            task.analyze();
            new LanguageTest(unit, Trees.instance(task)).check();
        }
        Check.end("LanguageTest");
    }

    private void check() {
        new Reader().scan(unit, null);
        Check.holds("rule 11: at most " + MOST_CLASSES + " classes, but " + classes, classes <= MOST_CLASSES);
        for (Element method : calls.keySet()) {
            int depth = depth(method, new LinkedHashSet<>());
            Check.holds("rule 11: calls go " + depth + " deep from " + method, depth <= MOST_DEPTH);
        }
    }

    /** How many calls stand open at once below a method, itself included. */
    private int depth(Element method, Set<Element> open) {
        if (depths.containsKey(method)) {
            return depths.get(method);
        }
        boolean again = !open.add(method);
        Check.holds("no recursion is needed: " + open + " and " + method + " again", !again);
        int deepest = 0;
        if (!again) {
            for (Element called : calls.getOrDefault(method, Set.of())) {
                deepest = Math.max(deepest, depth(called, open));
            }
            open.remove(method);
        }
        depths.put(method, deepest + 1);
        return deepest + 1;
    }

    /** Goes through the source; what is handed down is the method, or null, around what is read. */
    private final class Reader extends TreePathScanner<Void, Element> {
        @Override
        public Void scan(Tree tree, Element method) {
            if (tree != null) {
                Check.holds(tree.getKind() + " at line " + line(start(tree)), !FORBIDDEN.contains(tree.getKind()));
            }
            return super.scan(tree, method);
        }

        @Override
        public Void visitModifiers(ModifiersTree tree, Element method) {
            Check.holds("no other modifiers than those of " + tree, MODIFIERS.containsAll(tree.getFlags()));
            return super.visitModifiers(tree, method);
        }

        @Override
        public Void visitClass(ClassTree tree, Element method) {
            classes++;
            int fields = 0;
            for (Tree member : tree.getMembers()) {
                Check.holds("rule 5: no initialiser block in " + tree.getSimpleName(), member.getKind() != Kind.BLOCK);
                if (member instanceof VariableTree field) {
                    Set<Modifier> flags = field.getModifiers().getFlags();
                    boolean constant = flags.contains(Modifier.STATIC);
                    Check.holds("rule 5: " + field.getName() + " is final", !constant || flags.contains(Modifier.FINAL));
                    fields += constant ? 0 : 1;
                }
            }
            Check.holds("rule 11: " + fields + " fields of " + tree.getSimpleName(), fields <= MOST_FIELDS);
            return super.visitClass(tree, method);
        }

        @Override
        public Void visitMethod(MethodTree tree, Element around) {
            Element method = trees.getElement(getCurrentPath());
            calls.putIfAbsent(method, new LinkedHashSet<>());
            Check.holds("rule 6: no " + method, !OF_OBJECTS.contains(tree.getName().toString()));
            // a default constructor stands nowhere in the source
            long end = Math.max(start(tree), trees.getSourcePositions().getEndPosition(unit, tree));
            long lines = line(end) - line(start(tree)) + 1;
            Check.holds("rule 11: " + lines + " lines of " + method, lines <= MOST_LINES);
            int parameters = tree.getParameters().size();
            Check.holds("rule 11: " + parameters + " parameters of " + method, parameters <= MOST_PARAMETERS);
            return super.visitMethod(tree, method);
        }

        @Override
        public Void visitMethodInvocation(MethodInvocationTree tree, Element method) {
            called(trees.getElement(new TreePath(getCurrentPath(), tree.getMethodSelect())), method);
            return super.visitMethodInvocation(tree, method);
        }

        @Override
        public Void visitNewClass(NewClassTree tree, Element method) {
            called(trees.getElement(getCurrentPath()), method);
            return super.visitNewClass(tree, method);
        }

        private void called(Element called, Element method) {
            String owner = called.getEnclosingElement().toString();
            if (owner.split("\\.")[0].equals("RatePlanner")) {
                calls.computeIfAbsent(method, key -> new LinkedHashSet<>()).add(called);
            } else {
                String name = called.getEnclosingElement().getSimpleName() + "." + called.getSimpleName();
                Check.holds("rule 4: the library's " + name, LIBRARY.contains(name) || name.equals("Object.<init>"));
            }
        }

        private long start(Tree tree) {
            return Math.max(0, trees.getSourcePositions().getStartPosition(unit, tree));
        }

        private long line(long position) {
            return unit.getLineMap().getLineNumber(position);
        }
    }
}
