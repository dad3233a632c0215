import com.sun.source.tree.ClassTree;
import com.sun.source.tree.CompilationUnitTree;
import com.sun.source.tree.MethodInvocationTree;
import com.sun.source.tree.MethodTree;
import com.sun.source.tree.NewClassTree;
import com.sun.source.tree.Tree;
import com.sun.source.tree.VariableTree;
import com.sun.source.util.JavacTask;
import com.sun.source.util.SourcePositions;
import com.sun.source.util.TreePathScanner;
import com.sun.source.util.Trees;
import java.io.IOException;
import java.nio.file.Path;
import java.util.HashMap;
import java.util.Map;
import java.util.Set;
import java.util.TreeSet;
import javax.lang.model.element.Element;
import javax.lang.model.element.Modifier;
import javax.tools.JavaCompiler;
import javax.tools.StandardJavaFileManager;
import javax.tools.ToolProvider;

/** The rules of LANGUAGE.md that need the compiler's view: what is called, how deep, and how large all is. */
public final class RulesTest {
    private static final int MOST_DEEP = 8;
    private static final int MOST_LINES = 60;
    private static final int MOST_PARAMETERS = 7;
    private static final int MOST_FIELDS = 20;
    private static final int MOST_CLASSES = 12;

    // What of the library that rule 4 allows the program needs.
    private static final Set<String> LIBRARY = Set.of(
            "java.lang.Integer.bitCount(int)", "java.lang.Math.floorMod(int,int)", "java.lang.Math.max(int,int)",
            "java.lang.Math.min(int,int)", "java.util.Arrays.fill(int[],int)",
            "java.lang.System.arraycopy(java.lang.Object,int,java.lang.Object,int,int)", "java.lang.Object.Object()");
    private static final Set<String> CONSTANTS = Set.of(
            "int", "long", "boolean", "char", "String", "int[]", "long[]", "char[]", "byte[]");

    private static final Map<String, Set<String>> CALLS = new HashMap<>();
    private static int classes = 0;

    public static void main(String[] args) throws IOException {
        JavaCompiler compiler = ToolProvider.getSystemJavaCompiler();
        try (StandardJavaFileManager files = compiler.getStandardFileManager(null, null, null)) {
            JavacTask task = (JavacTask) compiler.getTask(null, files, null, null, null,
                    files.getJavaFileObjects(Path.of("src/main/java/TwistedLight.java")));
            Iterable<? extends CompilationUnitTree> units = task.parse();
            task.analyze();
            for (CompilationUnitTree unit : units) {
                new Reader(Trees.instance(task), unit).scan(unit, "");
            }
        }
        Due.is("the program was read", CALLS.size() > 30 ? 1 : 0, 1);
        atMost("classes", classes, MOST_CLASSES);
        for (String method : CALLS.keySet()) {
            atMost("calls one in another from " + method, depth(method, ""), MOST_DEEP);
        }
        Due.end();
    }

    private static void atMost(String what, long got, long most) {
        Due.is(what + ", at most " + most, Math.max(got, most), most);
    }

    /** How many methods stand open at once, the library's too; a method that calls itself is a fault. */
    private static int depth(String method, String open) {
        String now = open + "\n" + method;
        boolean isOpen = (open + "\n").contains("\n" + method + "\n");
        Due.is("calls itself:" + now, isOpen ? 1 : 0, 0);
        if (isOpen) {
            return 0;
        }
        int deepest = 0;
        for (String called : CALLS.getOrDefault(method, Set.of())) {
            deepest = Math.max(deepest, depth(called, now));
        }
        return deepest + 1;
    }

    /** Goes through the program with the name of the method that it stands in. */
    private static final class Reader extends TreePathScanner<Void, String> {
        private final Trees trees;
        private final CompilationUnitTree unit;

        Reader(Trees trees, CompilationUnitTree unit) {
            this.trees = trees;
            this.unit = unit;
        }

        @Override
        public Void visitClass(ClassTree tree, String method) {
            classes++;
            int fields = 0;
            for (Tree member : tree.getMembers()) {
                if (member instanceof VariableTree) {
                    VariableTree field = (VariableTree) member;
                    boolean isStatic = field.getModifiers().getFlags().contains(Modifier.STATIC);
                    fields += isStatic ? 0 : 1;
                    if (isStatic) {
                        constant(field);
                    }
                }
                Due.is("an initialiser block in " + tree.getSimpleName(), member.getKind() == Tree.Kind.BLOCK ? 1 : 0, 0);
            }
            atMost("fields of " + tree.getSimpleName(), fields, MOST_FIELDS);
            return super.visitClass(tree, method);
        }

        private void constant(VariableTree field) {
            boolean isFinal = field.getModifiers().getFlags().contains(Modifier.FINAL);
            Due.is("a static field that changes: " + field.getName(), isFinal ? 0 : 1, 0);
            Due.is("type of the constant " + field, CONSTANTS.contains(field.getType().toString()) ? 1 : 0, 1);
        }

        @Override
        public Void visitMethod(MethodTree tree, String method) {
            String name = nameOf(trees.getElement(getCurrentPath()));
            CALLS.putIfAbsent(name, new TreeSet<>());
            atMost("parameters of " + name, tree.getParameters().size(), MOST_PARAMETERS);
            SourcePositions positions = trees.getSourcePositions();
            long first = unit.getLineMap().getLineNumber(Math.max(0, positions.getStartPosition(unit, tree)));
            long last = unit.getLineMap().getLineNumber(Math.max(0, positions.getEndPosition(unit, tree)));
            atMost("lines of " + name, last - first + 1, MOST_LINES);
            return super.visitMethod(tree, name);
        }

        @Override
        public Void visitMethodInvocation(MethodInvocationTree tree, String method) {
            call(method);
            return super.visitMethodInvocation(tree, method);
        }

        @Override
        public Void visitNewClass(NewClassTree tree, String method) {
            call(method);
            return super.visitNewClass(tree, method);
        }

        private void call(String method) {
            String called = nameOf(trees.getElement(getCurrentPath()));
            Due.is("of the library: " + called, called.startsWith("TwistedLight") || LIBRARY.contains(called) ? 1 : 0, 1);
            if (!method.isEmpty()) {
                CALLS.get(method).add(called);
            }
        }

        private static String nameOf(Element element) {
            return element.getEnclosingElement() + "." + element;
        }
    }
}
