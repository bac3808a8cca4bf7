import com.sun.source.tree.AssertTree;
import com.sun.source.tree.ClassTree;
import com.sun.source.tree.CompilationUnitTree;
import com.sun.source.tree.IdentifierTree;
import com.sun.source.tree.ImportTree;
import com.sun.source.tree.LambdaExpressionTree;
import com.sun.source.tree.MemberReferenceTree;
import com.sun.source.tree.MethodInvocationTree;
import com.sun.source.tree.MethodTree;
import com.sun.source.tree.NewClassTree;
import com.sun.source.tree.SynchronizedTree;
import com.sun.source.tree.ThrowTree;
import com.sun.source.tree.Tree;
import com.sun.source.tree.TryTree;
import com.sun.source.tree.VariableTree;
import com.sun.source.util.JavacTask;
import com.sun.source.util.TreeScanner;
import com.sun.source.util.Trees;
import java.io.File;
import java.lang.reflect.Field;
import java.lang.reflect.Method;
import java.lang.reflect.Modifier;
import java.util.ArrayList;
import java.util.Arrays;
import java.util.List;
import java.util.Map;
import java.util.Set;
import java.util.TreeMap;
import java.util.TreeSet;
import javax.lang.model.element.Element;
import javax.lang.model.element.ExecutableElement;
import javax.tools.JavaCompiler;
import javax.tools.StandardJavaFileManager;
import javax.tools.ToolProvider;

/** The rules of LANGUAGE.md that can be read off the source, and the face of the class. */
public final class LanguageTest {
    private static final Check CHECK = new Check("LanguageTest");
    private static final String FACE = "status feed load fault many near add drop flip turn swing rename undo image like"
            + " order split strong prime piece knot ties plain twins most colours paintings letter span mean find cross"
            + " fits gap could beside turned obstruction obstructions family turns within shuffle sample";
    private static final Map<String, Set<String>> LIBRARY = Map.of(
            "java.util.Arrays", Set.of("copyOf", "copyOfRange", "fill"),
            "java.lang.System", Set.of("arraycopy"),
            "java.lang.Math", Set.of("min", "max", "abs", "floorMod", "floorDiv"),
            "java.lang.Integer", Set.of("bitCount", "min", "max", "abs", "compare"),
            "java.lang.String", Set.of("length", "charAt"));

    private final Set<String> face = new TreeSet<>(Arrays.asList(FACE.split(" ")));
    private final Map<String, Set<String>> calls = new TreeMap<>();
    private final Map<String, MethodTree> methods = new TreeMap<>();
    private int classes;

    public static void main(String[] args) throws Exception {
        LanguageTest test = new LanguageTest();
        test.checkFace();
        test.checkSource(new File("src/main/java/ChordWords.java"));
        CHECK.end();
    }

    private static void fine(String what, boolean fine) {
        CHECK.due(what, fine, true);
    }

    private void checkFace() throws Exception {
        Set<String> names = new TreeSet<>();
        for (Method method : ChordWords.class.getDeclaredMethods()) {
            boolean open = Modifier.isPublic(method.getModifiers());
            fine(method + " is public or private", open || Modifier.isPrivate(method.getModifiers()));
            fine(method + " has a name of its own", open == face.contains(method.getName()));
            if (open) {
                fine(method + " stands once", names.add(method.getName()));
                String due = method.getName().equals("paintings") ? "long"
                        : method.getName().equals("rename") || method.getName().equals("image") ? "boolean" : "int";
                fine(method + " answers " + due, method.getReturnType().getName().equals(due));
            }
        }
        fine("all calls stand", names.equals(face));
        for (Field field : ChordWords.class.getDeclaredFields()) {
            fine(field + " is private", field.getName().equals("NONE") == !Modifier.isPrivate(field.getModifiers()));
        }
        CHECK.due("NONE", ChordWords.NONE, -1);
        CHECK.due("constructors", ChordWords.class.getConstructors().length, 1);
        fine("the class is final", Modifier.isFinal(ChordWords.class.getModifiers()));
        for (Class<?> inside : ChordWords.class.getDeclaredClasses()) {
            fine(inside + " is static", Modifier.isStatic(inside.getModifiers()));
            fine(inside + " is not open", !Modifier.isPublic(inside.getModifiers())
                    && !Modifier.isProtected(inside.getModifiers()));
        }
    }

    private void checkSource(File file) throws Exception {
        JavaCompiler compiler = ToolProvider.getSystemJavaCompiler();
        try (StandardJavaFileManager files = compiler.getStandardFileManager(null, null, null)) {
            JavacTask task = (JavacTask) compiler.getTask(null, files, null, List.of("-proc:none"), null,
                    files.getJavaFileObjects(file));
            List<CompilationUnitTree> units = new ArrayList<>();
            task.parse().forEach(units::add);
            task.analyze();
            for (CompilationUnitTree unit : units) {
                fine("there is no package", unit.getPackage() == null);
                for (ImportTree one : unit.getImports()) {
                    fine("import of " + one, Set.of("java.util.Arrays", "java.util.ArrayList", "java.util.List")
                            .contains(one.getQualifiedIdentifier().toString()));
                }
                new Reading(Trees.instance(task), unit).scan(unit, null);
            }
        }
        fine("some twelve classes", classes <= 12);
        for (String method : methods.keySet()) {
            fine(method + " stands at most eight deep", depth(method, new ArrayList<>()) <= 8);
        }
    }

    /** How deep the calls go below a method; one that calls itself must be private and static. */
    private int depth(String method, List<String> open) {
        if (open.contains(method)) {
            boolean alone = open.get(open.size() - 1).equals(method);
            Set<String> flags = new TreeSet<>();
            methods.get(method).getModifiers().getFlags().forEach(flag -> flags.add(flag.toString()));
            fine(method + " calls itself as it may", alone && flags.containsAll(Set.of("private", "static")));
            return 0;
        }
        open.add(method);
        int deepest = 0;
        for (String other : calls.get(method)) {
            if (methods.containsKey(other)) {
                deepest = Math.max(deepest, depth(other, open));
            }
        }
        open.remove(open.size() - 1);
        return deepest + 1;
    }

    private final class Reading extends TreeScanner<Void, Void> {
        private final Trees trees;
        private final CompilationUnitTree unit;
        private String method = "";

        Reading(Trees trees, CompilationUnitTree unit) {
            this.trees = trees;
            this.unit = unit;
        }

        private Element element(Tree tree) {
            return trees.getElement(trees.getPath(unit, tree));
        }

        private String nameOf(Element element) {
            return element.getEnclosingElement() + "." + element.toString();
        }

        private void refuse(Tree tree) {
            long line = unit.getLineMap().getLineNumber(trees.getSourcePositions().getStartPosition(unit, tree));
            fine(tree.getKind() + " in line " + line, false);
        }

        @Override
        public Void visitClass(ClassTree tree, Void none) {
            classes++;
            int fields = 0;
            for (Tree member : tree.getMembers()) {
                if (member instanceof VariableTree) {
                    Set<javax.lang.model.element.Modifier> flags = ((VariableTree) member).getModifiers().getFlags();
                    boolean shared = flags.contains(javax.lang.model.element.Modifier.STATIC);
                    fine(member + " is final", !shared || flags.contains(javax.lang.model.element.Modifier.FINAL));
                    fields += shared ? 0 : 1;
                }
                fine("no initialiser block", member.getKind() != Tree.Kind.BLOCK);
            }
            fine(tree.getSimpleName() + " has some twenty fields", fields <= 20);
            return super.visitClass(tree, none);
        }

        @Override
        public Void visitMethod(MethodTree tree, Void none) {
            method = nameOf(element(tree));
            methods.put(method, tree);
            calls.put(method, new TreeSet<>());
            long first = unit.getLineMap().getLineNumber(trees.getSourcePositions().getStartPosition(unit, tree));
            long last = unit.getLineMap().getLineNumber(trees.getSourcePositions().getEndPosition(unit, tree));
            fine(method + " is short", last - first < 60);
            fine(method + " takes at most seven", tree.getParameters().size() <= 7);
            boolean outer = element(tree).getEnclosingElement().toString().equals("ChordWords");
            fine(method + " bears no name of the face", outer || !face.contains(tree.getName().toString()));
            return super.visitMethod(tree, none);
        }

        @Override
        public Void visitMethodInvocation(MethodInvocationTree tree, Void none) {
            Element called = element(tree.getMethodSelect());
            if (called instanceof ExecutableElement && !called.getSimpleName().contentEquals("<init>")) {
                String owner = called.getEnclosingElement().toString();
                calls.get(method).add(nameOf(called));
                fine(nameOf(called) + " may be called", owner.startsWith("ChordWords")
                        || LIBRARY.getOrDefault(owner, Set.of()).contains(called.getSimpleName().toString()));
            }
            return super.visitMethodInvocation(tree, none);
        }

        @Override
        public Void visitNewClass(NewClassTree tree, Void none) {
            fine("a class without a name", tree.getClassBody() == null);
            return super.visitNewClass(tree, none);
        }

        @Override
        public Void visitThrow(ThrowTree tree, Void none) {
            refuse(tree);
            return null;
        }

        @Override
        public Void visitTry(TryTree tree, Void none) {
            refuse(tree);
            return null;
        }

        @Override
        public Void visitSynchronized(SynchronizedTree tree, Void none) {
            refuse(tree);
            return null;
        }

        @Override
        public Void visitAssert(AssertTree tree, Void none) {
            refuse(tree);
            return null;
        }

        @Override
        public Void visitLambdaExpression(LambdaExpressionTree tree, Void none) {
            refuse(tree);
            return null;
        }

        @Override
        public Void visitMemberReference(MemberReferenceTree tree, Void none) {
            refuse(tree);
            return null;
        }

        @Override
        public Void visitIdentifier(IdentifierTree tree, Void none) {
            Element type = element(tree);
            if (type != null && type.getKind().isClass()) {
                String name = type.toString();
                fine("the class " + name, name.startsWith("ChordWords") || LIBRARY.containsKey(name));
            }
            return super.visitIdentifier(tree, none);
        }
    }
}
