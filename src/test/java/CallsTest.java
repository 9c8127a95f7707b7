import com.sun.source.tree.ClassTree;
import com.sun.source.tree.CompilationUnitTree;
import com.sun.source.tree.MethodInvocationTree;
import com.sun.source.tree.MethodTree;
import com.sun.source.tree.NewClassTree;
import com.sun.source.tree.Tree;
import com.sun.source.tree.VariableTree;
import com.sun.source.util.JavacTask;
import com.sun.source.util.SourcePositions;
import com.sun.source.util.TreePathScanner;
import com.sun.source.util.Trees;
import java.nio.file.Path;
import java.util.ArrayList;
import java.util.HashSet;
import java.util.List;
import java.util.Map;
import java.util.Set;
import java.util.TreeMap;
import java.util.TreeSet;
import javax.lang.model.element.Element;
import javax.lang.model.element.ExecutableElement;
import javax.lang.model.element.Modifier;
import javax.lang.model.element.TypeElement;
import javax.lang.model.element.VariableElement;
import javax.tools.JavaCompiler;
import javax.tools.StandardJavaFileManager;
import javax.tools.ToolProvider;

/** What of ../shared/LANGUAGE.md the compiler's own tree of the class tells: who calls whom, how deep, of what types. */
public final class CallsTest extends TreePathScanner<Void, Void> {
    private static final Set<String> LIBRARY = Set.of("Object.Object()", "String.indexOf(int)",
        "Math.abs(int)", "Math.min(int,int)", "Math.max(int,int)", "Math.min(long,long)", "Integer.bitCount(int)",
        "System.arraycopy(java.lang.Object,int,java.lang.Object,int,int)",
        "Arrays.fill(int[],int)", "Arrays.fill(long[],long)");
    private static int wrong = 0;

    private final Trees trees;
    private final SourcePositions places;
    private final CompilationUnitTree unit;
    private final Map<String, Set<String>> calls = new TreeMap<>();
    private final Set<String> open = new TreeSet<>();
    private String method = "";

    private CallsTest(Trees trees, CompilationUnitTree unit) {
        this.trees = trees;
        this.unit = unit;
        places = trees.getSourcePositions();
    }

    public static void main(String[] args) throws Exception {
        JavaCompiler compiler = ToolProvider.getSystemJavaCompiler();
        try (StandardJavaFileManager files = compiler.getStandardFileManager(null, null, null)) {
            JavacTask task = (JavacTask) compiler.getTask(null, files, null, List.of("-proc:none"), null,
                files.getJavaFileObjects(Path.of("src/main/java/PuzzleWed.java")));
            CompilationUnitTree unit = task.parse().iterator().next();
            task.analyze();
            CallsTest test = new CallsTest(Trees.instance(task), unit);
            test.scan(unit, null);
            test.depths();
        }
        System.out.println(wrong == 0 ? "CallsTest: the calls keep to the rules" : wrong + " rules are broken");
        if (wrong != 0) System.exit(1);
    }

    private static void due(String rule, boolean kept) {
        if (!kept) {
            wrong++;
            System.out.println("broken: " + rule);
        }
    }

    private Element element() {
        return trees.getElement(getCurrentPath());
    }

    private static String name(Element e) {
        return e.getEnclosingElement().getSimpleName() + "." + e;
    }

    private boolean isOwn(Element e) {
        Element of = e;
        while (of.getEnclosingElement() instanceof TypeElement outer) of = outer;
        return of.getSimpleName().contentEquals("PuzzleWed");
    }

    @Override
    public Void visitClass(ClassTree tree, Void none) {
        Element e = element();
        boolean outer = e.getSimpleName().contentEquals("PuzzleWed");
        long fields = tree.getMembers().stream()
            .filter(m -> m instanceof VariableTree v && !v.getModifiers().getFlags().contains(Modifier.STATIC)).count();
        due("fields of " + e + ": " + fields, fields <= 20);
        due(e + " is static and not open", outer || e.getModifiers().contains(Modifier.STATIC) && !e.getModifiers().contains(Modifier.PUBLIC));
        return super.visitClass(tree, none);
    }

    @Override
    public Void visitMethod(MethodTree tree, Void none) {
        ExecutableElement e = (ExecutableElement) element();
        long from = unit.getLineMap().getLineNumber(places.getStartPosition(unit, tree));
        long to = unit.getLineMap().getLineNumber(places.getEndPosition(unit, tree));
        String before = method;
        method = name(e);
        calls.putIfAbsent(method, new TreeSet<>());
        if (e.getModifiers().contains(Modifier.PUBLIC)) open.add(method);
        due(method + " has " + e.getParameters().size() + " parameters", e.getParameters().size() <= 7);
        due(method + " has " + (to - from + 1) + " lines", to - from < 60);
        super.visitMethod(tree, none);
        method = before;
        return null;
    }

    @Override
    public Void visitVariable(VariableTree tree, Void none) {
        VariableElement e = (VariableElement) element();
        String type = e.asType().toString();
        boolean known = type.matches("(int|long|boolean)|int\\[\\](\\[\\])?|long\\[\\]|java\\.lang\\.String|PuzzleWed\\.\\w+");
        due("the type of " + e + ": " + type, known);
        if (e.getModifiers().contains(Modifier.STATIC)) due(e + " is a constant", e.getConstantValue() != null);
        return super.visitVariable(tree, none);
    }

    @Override
    public Void visitMethodInvocation(MethodInvocationTree tree, Void none) {
        called(element());
        return super.visitMethodInvocation(tree, none);
    }

    @Override
    public Void visitNewClass(NewClassTree tree, Void none) {
        called(element());
        due("only constructors make objects, not " + method, method.endsWith(".PuzzleWed()"));
        return super.visitNewClass(tree, none);
    }

    @Override
    public Void visitNewArray(com.sun.source.tree.NewArrayTree tree, Void none) {
        due("only constructors make arrays, not " + method, method.matches("(\\w+)\\.\\1\\(.*"));
        return super.visitNewArray(tree, none);
    }

    private void called(Element e) {
        if (isOwn(e)) calls.get(method).add(name(e));
        else due("of the library not " + name(e), LIBRARY.contains(name(e)));
    }

    /** Whom a method reaches by any calls. */
    private Set<String> reached(String from) {
        Set<String> seen = new HashSet<>();
        List<String> next = new ArrayList<>(calls.get(from));
        while (!next.isEmpty()) {
            String m = next.remove(next.size() - 1);
            if (seen.add(m)) next.addAll(calls.get(m));
        }
        return seen;
    }

    private void depths() {
        Set<String> recursive = new TreeSet<>();
        for (String m : calls.keySet()) {
            if (reached(m).contains(m)) recursive.add(m);
        }
        for (String m : recursive) due("only the reader of laws calls itself, by a depth: " + m, m.startsWith("LawReader.read") && m.endsWith("int)"));
        due("the face", open.size() == 30);
        for (String m : open) due(m + " goes too deep: " + depth(m, recursive), depth(m, recursive) <= 8);
    }

    /** How many calls stand open at most, those that call one another left out. */
    private int depth(String m, Set<String> recursive) {
        int deepest = 0;
        Set<String> next = new TreeSet<>(calls.get(m));
        if (recursive.contains(m)) {
            for (String other : recursive) next.addAll(calls.get(other));
            next.removeAll(recursive);
        }
        for (String n : next) deepest = Math.max(deepest, depth(n, recursive));
        return deepest + (recursive.contains(m) ? 0 : 1);
    }
}
