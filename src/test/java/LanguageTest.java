import com.sun.source.tree.BinaryTree;
import com.sun.source.tree.ClassTree;
import com.sun.source.tree.CompilationUnitTree;
import com.sun.source.tree.MethodInvocationTree;
import com.sun.source.tree.MethodTree;
import com.sun.source.tree.NewClassTree;
import com.sun.source.tree.Tree;
import com.sun.source.tree.VariableTree;
import com.sun.source.util.JavacTask;
import com.sun.source.util.TreePathScanner;
import com.sun.source.util.Trees;
import java.io.File;
import java.nio.file.Files;
import java.nio.file.Path;
import java.util.ArrayList;
import java.util.HashMap;
import java.util.HashSet;
import java.util.LinkedHashSet;
import java.util.List;
import java.util.Map;
import java.util.Set;
import java.util.TreeSet;
import java.util.regex.Matcher;
import java.util.regex.Pattern;
import javax.lang.model.element.Element;
import javax.lang.model.element.ExecutableElement;
import javax.lang.model.element.Modifier;
import javax.tools.JavaCompiler;
import javax.tools.StandardJavaFileManager;
import javax.tools.ToolProvider;

/** The rules of LANGUAGE.md that can be seen in the source, and the document's face. */
public final class LanguageTest {
    private static final String SOURCE = "src/main/java/PartyLine.java";
    private static final Set<Tree.Kind> FORBIDDEN = Set.of(Tree.Kind.THROW, Tree.Kind.TRY, Tree.Kind.CATCH, Tree.Kind.SYNCHRONIZED,
        Tree.Kind.ASSERT, Tree.Kind.LAMBDA_EXPRESSION, Tree.Kind.MEMBER_REFERENCE, Tree.Kind.IMPORT, Tree.Kind.PACKAGE);
    private static final Set<String> LIBRARY = Set.of("java.lang.Math.max", "java.lang.Math.min", "java.lang.Math.abs",
        "java.lang.Integer.bitCount", "java.lang.Integer.numberOfTrailingZeros", "java.lang.String.length", "java.lang.String.charAt",
        "java.lang.String.indexOf", "java.lang.System.arraycopy");

    private final Set<String> face = new TreeSet<>();
    private final Set<String> faceNames = new HashSet<>();
    private final Map<Element, Set<Element>> calls = new HashMap<>();
    private int classes;

    private LanguageTest() {
    }

    public static void main(String[] args) throws Exception {
        LanguageTest test = new LanguageTest();
        test.readFace();
        test.readSource();
        test.compareFace();
        test.lookAtDepth();
        Check.due("classes", Math.max(test.classes, 12), 12);
        Check.end();
    }

    /** The public face, as the document's block tells it. */
    private void readFace() throws Exception {
        String doc = Files.readString(Path.of("../shared/DOC.md"));
        Matcher call = Pattern.compile("public (int|long) (\\w+)\\(([^)]*)\\);").matcher(doc);
        while (call.find()) {
            faceNames.add(call.group(2));
            face.add(call.group(1) + " " + call.group(2) + "(" + call.group(3).replaceAll(" \\w+(,|$)", "$1").replace(" ", "") + ")");
        }
        Check.due("calls in the document", face.size(), 48);
    }

    private void compareFace() {
        Set<String> found = new TreeSet<>();
        for (java.lang.reflect.Method m : PartyLine.class.getDeclaredMethods()) {
            if (!java.lang.reflect.Modifier.isPrivate(m.getModifiers()) && !m.isSynthetic()) {
                List<String> types = new ArrayList<>();
                for (Class<?> type : m.getParameterTypes()) {
                    types.add(type.getName());
                }
                found.add(m.getReturnType().getName() + " " + m.getName() + "(" + String.join(",", types) + ")");
                Check.holds(m.getName() + " is public", java.lang.reflect.Modifier.isPublic(m.getModifiers()));
            }
        }
        Check.holds("the face is the document's: " + found + " for " + face, found.equals(face));
        for (java.lang.reflect.Field f : PartyLine.class.getDeclaredFields()) {
            Check.holds("field " + f.getName(), java.lang.reflect.Modifier.isPrivate(f.getModifiers()) || f.getName().equals("NONE"));
        }
        Check.due("constructors", PartyLine.class.getConstructors().length, 1);
        Check.holds("public and final", PartyLine.class.getModifiers() == (java.lang.reflect.Modifier.PUBLIC | java.lang.reflect.Modifier.FINAL));
    }

    private void readSource() throws Exception {
        JavaCompiler compiler = ToolProvider.getSystemJavaCompiler();
        try (StandardJavaFileManager files = compiler.getStandardFileManager(null, null, null)) {
            JavacTask task = (JavacTask) compiler.getTask(null, files, null, List.of("-proc:none"), null,
                files.getJavaFileObjects(new File(SOURCE)));
            Iterable<? extends CompilationUnitTree> units = task.parse();
            task.analyze();
            for (CompilationUnitTree unit : units) {
                new Look(Trees.instance(task), unit).scan(unit, null);
            }
        }
        for (char c : Files.readString(Path.of(SOURCE)).toCharArray()) {
            if (c > 126) {
                Check.holds("sign " + (int) c, false);
            }
        }
    }

    /** No method calls itself by way of others, and none goes deeper than eight. */
    private void lookAtDepth() {
        for (Element method : calls.keySet()) {
            List<Element> longest = longest(method, new LinkedHashSet<>());
            Check.due("depth of " + longest, Math.max(longest.size(), 8), 8);
        }
    }

    private List<Element> longest(Element method, LinkedHashSet<Element> open) {
        Check.holds("no recursion through " + method, open.add(method));
        List<Element> best = new ArrayList<>();
        for (Element called : calls.getOrDefault(method, Set.of())) {
            if (!open.contains(called)) {
                List<Element> further = longest(called, open);
                best = further.size() > best.size() ? further : best;
            } else {
                Check.holds("no recursion to " + called, false);
            }
        }
        open.remove(method);
        List<Element> answer = new ArrayList<>(List.of(method));
        answer.addAll(best);
        return answer;
    }

    private final class Look extends TreePathScanner<Void, Void> {
        private final Trees trees;
        private final CompilationUnitTree unit;
        private Element inside;

        Look(Trees trees, CompilationUnitTree unit) {
            this.trees = trees;
            this.unit = unit;
        }

        private long lineOf(Tree tree, boolean end) {
            long at = end ? trees.getSourcePositions().getEndPosition(unit, tree) : trees.getSourcePositions().getStartPosition(unit, tree);
            return unit.getLineMap().getLineNumber(at);
        }

        @Override
        public Void scan(Tree tree, Void nothing) {
            if (tree != null && FORBIDDEN.contains(tree.getKind())) {
                Check.holds("line " + lineOf(tree, false) + ": no " + tree.getKind(), false);
            }
            return super.scan(tree, nothing);
        }

        @Override
        public Void visitClass(ClassTree tree, Void nothing) {
            classes++;
            Set<Modifier> flags = tree.getModifiers().getFlags();
            String name = tree.getSimpleName().toString();
            Check.holds("class " + name + " is static", name.equals("PartyLine") || flags.contains(Modifier.STATIC));
            Check.holds("class " + name + " isn't public", name.equals("PartyLine") || !flags.contains(Modifier.PUBLIC));
            int fields = 0;
            for (Tree member : tree.getMembers()) {
                if (member instanceof VariableTree field) {
                    fields += lookAtField(field);
                }
            }
            Check.due("fields of " + name, Math.max(fields, 20), 20);
            return super.visitClass(tree, nothing);
        }

        private int lookAtField(VariableTree field) {
            Set<Modifier> flags = field.getModifiers().getFlags();
            if (!flags.contains(Modifier.STATIC)) {
                return 1;
            }
            Check.holds("constant " + field.getName(), flags.contains(Modifier.FINAL)
                && Set.of("int", "long", "boolean", "char", "String").contains(field.getType().toString()));
            return 0;
        }

        @Override
        public Void visitMethod(MethodTree tree, Void nothing) {
            Element outer = inside;
            inside = trees.getElement(getCurrentPath());
            calls.computeIfAbsent(inside, key -> new LinkedHashSet<>());
            String name = tree.getName().toString();
            boolean open = tree.getModifiers().getFlags().contains(Modifier.PUBLIC);
            Check.holds("the name " + name + " is the face's alone", open || !faceNames.contains(name));
            Check.due("parameters of " + name, Math.max(tree.getParameters().size(), 7), 7);
            Check.due("lines of " + name, Math.max(lineOf(tree, true) - lineOf(tree, false) + 1, 60), 60);
            super.visitMethod(tree, nothing);
            inside = outer;
            return null;
        }

        @Override
        public Void visitMethodInvocation(MethodInvocationTree tree, Void nothing) {
            lookAtCall(trees.getElement(getCurrentPath()), tree);
            return super.visitMethodInvocation(tree, nothing);
        }

        @Override
        public Void visitNewClass(NewClassTree tree, Void nothing) {
            Check.holds("line " + lineOf(tree, false) + ": no anonymous class", tree.getClassBody() == null);
            lookAtCall(trees.getElement(getCurrentPath()), tree);
            return super.visitNewClass(tree, nothing);
        }

        private void lookAtCall(Element called, Tree tree) {
            String owner = called.getEnclosingElement().toString();
            if (owner.startsWith("java.")) {
                String name = owner + "." + called.getSimpleName();
                boolean root = name.equals("java.lang.Object.<init>");
                Check.holds("line " + lineOf(tree, false) + ": " + name + " is in the library", root || LIBRARY.contains(name));
            } else if (inside != null && called instanceof ExecutableElement) {
                calls.get(inside).add(called);
            }
        }

        @Override
        public Void visitBinary(BinaryTree tree, Void nothing) {
            if (tree.getKind() == Tree.Kind.PLUS) {
                String type = trees.getTypeMirror(getCurrentPath()).toString();
                Check.holds("line " + lineOf(tree, false) + ": no texts joined by +", !type.contains("String"));
            }
            return super.visitBinary(tree, nothing);
        }
    }
}
