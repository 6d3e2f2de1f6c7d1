import com.sun.source.tree.ClassTree;
import com.sun.source.tree.CompilationUnitTree;
import com.sun.source.tree.LiteralTree;
import com.sun.source.tree.MethodInvocationTree;
import com.sun.source.tree.MethodTree;
import com.sun.source.tree.NewClassTree;
import com.sun.source.tree.ThrowTree;
import com.sun.source.tree.VariableTree;
import com.sun.source.util.JavacTask;
import com.sun.source.util.TreePathScanner;
import com.sun.source.util.Trees;
import java.io.File;
import java.io.IOException;
import java.util.ArrayList;
import java.util.HashMap;
import java.util.LinkedHashMap;
import java.util.LinkedHashSet;
import java.util.List;
import java.util.Map;
import java.util.Set;
import javax.lang.model.element.Element;
import javax.lang.model.element.ElementKind;
import javax.lang.model.element.Modifier;
import javax.lang.model.element.VariableElement;
import javax.tools.JavaCompiler;
import javax.tools.StandardJavaFileManager;
import javax.tools.ToolProvider;

/** What LANGUAGE.md says of calls, fields and classes, asked of the compiler, so that every name is resolved. */
public final class StructureTest {
    private static final File SOURCE = new File("src/main/java/CloneOutliner.java");
    private static final int DEEPEST = 8;
    private static final int MOST_CLASSES = 12;
    private static final int MOST_FIELDS = 20;
    private static final Set<String> LIBRARY = Set.of("java.lang.String.length", "java.lang.String.charAt",
        "java.lang.Math.max", "java.lang.Math.min", "java.lang.Long.bitCount", "java.lang.System.arraycopy",
        "java.lang.IllegalArgumentException.<init>", "java.lang.IllegalStateException.<init>",
        "java.lang.UnsupportedOperationException.<init>", "java.lang.IndexOutOfBoundsException.<init>",
        "java.util.NoSuchElementException.<init>");

    private final List<String> faults = new ArrayList<>();
    private final Map<Element, Set<Element>> calls = new LinkedHashMap<>();
    private final Map<Element, Integer> depths = new HashMap<>();
    private final Map<Element, Integer> fields = new LinkedHashMap<>();
    private final Set<String> faceNames = new LinkedHashSet<>();
    private int literals = 0;

    public static void main(String[] args) throws IOException {
        StructureTest test = new StructureTest();
        test.readSource();
        test.checkDepths();
        test.checkNames();
        test.checkSizes();
        for (String fault : test.faults) {
            System.out.println(fault);
        }
        System.out.println("StructureTest: " + test.calls.size() + " methods, " + test.faults.size() + " faults");
        if (!test.faults.isEmpty()) {
            System.exit(1);
        }
    }

    private void readSource() throws IOException {
        JavaCompiler compiler = ToolProvider.getSystemJavaCompiler();
        try (StandardJavaFileManager files = compiler.getStandardFileManager(null, null, null)) {
            JavacTask task = (JavacTask) compiler.getTask(null, files, null, null, null,
                files.getJavaFileObjects(SOURCE));
            Iterable<? extends CompilationUnitTree> units = task.parse();
            task.analyze();
            Trees trees = Trees.instance(task);
            for (CompilationUnitTree unit : units) {
                new Reader(trees).scan(unit, null);
            }
        }
    }

    /** Notes what each method calls, and looks at what can be judged where it stands. */
    private final class Reader extends TreePathScanner<Void, Void> {
        private final Trees trees;
        private Element method = null;

        Reader(Trees trees) {
            this.trees = trees;
        }

        private Element here() {
            return trees.getElement(getCurrentPath());
        }

        @Override
        public Void visitClass(ClassTree tree, Void nothing) {
            Element type = here();
            fields.put(type, 0);
            boolean isInside = type.getEnclosingElement().getKind() == ElementKind.CLASS;
            expect(!isInside || type.getModifiers().contains(Modifier.STATIC), "a class that is not static: " + type);
            return super.visitClass(tree, nothing);
        }

        @Override
        public Void visitMethod(MethodTree tree, Void nothing) {
            method = here();
            calls.put(method, new LinkedHashSet<>());
            if (method.getModifiers().contains(Modifier.PUBLIC)) {
                faceNames.add(method.getSimpleName().toString());
            }
            super.visitMethod(tree, nothing);
            method = null;
            return null;
        }

        @Override
        public Void visitVariable(VariableTree tree, Void nothing) {
            VariableElement field = (VariableElement) here();
            if (field.getKind() == ElementKind.FIELD) {
                if (field.getModifiers().contains(Modifier.STATIC)) {
                    // Arrays that are never changed would be allowed, too; the program gets along without them.
                    expect(field.getConstantValue() != null, "a static field that is no constant: " + field);
                } else {
                    fields.merge(field.getEnclosingElement(), 1, Integer::sum);
                }
                expect(field.getModifiers().contains(Modifier.PRIVATE), "a field that is not private: " + field);
            }
            return super.visitVariable(tree, nothing);
        }

        @Override
        public Void visitMethodInvocation(MethodInvocationTree tree, Void nothing) {
            noteCall(here());
            return super.visitMethodInvocation(tree, nothing);
        }

        @Override
        public Void visitNewClass(NewClassTree tree, Void nothing) {
            noteCall(here());
            return super.visitNewClass(tree, nothing);
        }

        @Override
        public Void visitThrow(ThrowTree tree, Void nothing) {
            expect(method != null && method.getKind() == ElementKind.METHOD, "a throw outside of methods: " + tree);
            return super.visitThrow(tree, nothing);
        }

        @Override
        public Void visitLiteral(LiteralTree tree, Void nothing) {
            if (tree.getValue() instanceof String text) {
                literals++;
                expect(text.chars().allMatch(sign -> sign >= 1 && sign <= 127), "a sign in a text: " + text);
            }
            return super.visitLiteral(tree, nothing);
        }

        private void noteCall(Element called) {
            String type = called.getEnclosingElement().toString();
            String name = type + "." + called.getSimpleName();
            if (!type.startsWith("CloneOutliner")) {
                // A constructor's own call of its class above stands in no source.
                expect(LIBRARY.contains(name) || name.equals("java.lang.Object.<init>"), "the library's " + name);
            } else if (method != null) {
                calls.get(method).add(called);
            }
        }
    }

    private void checkDepths() {
        for (Element method : calls.keySet()) {
            int depth = depthOf(method, 1);
            expect(depth <= DEEPEST, depth + " calls deep: " + method);
        }
    }

    /** How many calls stand open at most, this one included; one that calls itself would never end here. */
    private int depthOf(Element method, int open) {
        Integer known = depths.get(method);
        if (known != null) {
            return known;
        }
        if (open > calls.size()) {
            expect(false, "a method that calls itself: " + method);
            return 0;
        }
        int deepest = 0;
        for (Element called : calls.getOrDefault(method, Set.of())) {
            deepest = Math.max(deepest, depthOf(called, open + 1));
        }
        depths.put(method, deepest + 1);
        return deepest + 1;
    }

    private void checkNames() {
        expect(faceNames.size() == 32, "the face has " + faceNames.size() + " names");
        for (Element method : calls.keySet()) {
            boolean isPublic = method.getModifiers().contains(Modifier.PUBLIC);
            boolean isMethod = method.getKind() == ElementKind.METHOD;
            expect(isPublic || !isMethod || !faceNames.contains(method.getSimpleName().toString()),
                "a name of the face: " + method);
        }
    }

    private void checkSizes() {
        expect(fields.size() <= MOST_CLASSES, fields.size() + " classes");
        for (Map.Entry<Element, Integer> entry : fields.entrySet()) {
            expect(entry.getValue() <= MOST_FIELDS, entry.getValue() + " fields in " + entry.getKey());
        }
        expect(calls.size() > 100 && literals > 0, "the source was not read");
    }

    private void expect(boolean isSo, String fault) {
        if (!isSo) {
            faults.add(fault);
        }
    }
}
