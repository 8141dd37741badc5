import com.sun.source.tree.BinaryTree;
import com.sun.source.tree.ClassTree;
import com.sun.source.tree.CompilationUnitTree;
import com.sun.source.tree.CompoundAssignmentTree;
import com.sun.source.tree.ImportTree;
import com.sun.source.tree.LineMap;
import com.sun.source.tree.MethodInvocationTree;
import com.sun.source.tree.MethodTree;
import com.sun.source.tree.NewClassTree;
import com.sun.source.tree.ThrowTree;
import com.sun.source.tree.Tree;
import com.sun.source.util.JavacTask;
import com.sun.source.util.SourcePositions;
import com.sun.source.util.TreePath;
import com.sun.source.util.TreePathScanner;
import com.sun.source.util.Trees;
import java.io.File;
import java.lang.reflect.Field;
import java.lang.reflect.Method;
import java.lang.reflect.Modifier;
import java.util.ArrayList;
import java.util.Arrays;
import java.util.EnumSet;
import java.util.HashMap;
import java.util.HashSet;
import java.util.LinkedHashSet;
import java.util.List;
import java.util.Map;
import java.util.Set;
import java.util.TreeSet;
import javax.lang.model.element.Element;
import javax.lang.model.type.TypeKind;
import javax.tools.JavaCompiler;
import javax.tools.StandardJavaFileManager;
import javax.tools.ToolProvider;

/** The face of the document, and those rules of LANGUAGE.md that a program can look at. */
public final class LanguageTest {
    private static final File SOURCE = new File("src/main/java/DogBoard.java");
    private static final int MOST_LINES = 60;
    private static final int MOST_PARAMETERS = 7;
    private static final int MOST_CLASSES = 12;
    private static final int MOST_FIELDS = 20;
    private static final int MOST_DEPTH = 8;

    private static final String BOUNDS = "IndexOutOfBoundsException";
    private static final String ARGUMENT = "IllegalArgumentException";
    private static final String STATE = "IllegalStateException";
    private static final String[] FACE = {
        "append(int) " + ARGUMENT + " " + STATE,
        "clearText()",
        "errorPosition()",
        "load() " + STATE,
        "about(int) " + ARGUMENT,
        "dogOf(int,int) " + BOUNDS + " " + ARGUMENT,
        "sightingOf(int,int) " + BOUNDS + " " + ARGUMENT,
        "purse(int) " + BOUNDS,
        "apart(int,int,int) " + BOUNDS + " " + ARGUMENT,
        "lose(int,int,int,int) " + BOUNDS + " " + ARGUMENT + " " + STATE,
        "sight(int,int,int,int,boolean) " + BOUNDS + " " + ARGUMENT + " " + STATE,
        "find(int,int,int) " + BOUNDS + " " + STATE,
        "close(int,int,boolean) " + BOUNDS + " " + ARGUMENT,
        "hours(int) " + ARGUMENT,
        "set(int,int) " + ARGUMENT,
        "undo() " + STATE,
        "canBe(int) " + BOUNDS + " " + STATE,
        "watch()",
        "meant(int) " + ARGUMENT,
        "ifFound(int,int,int,int) " + BOUNDS + " " + STATE,
        "runScript(int,long) " + ARGUMENT,
        "simulate(long,int) " + ARGUMENT,
        "save(int) " + BOUNDS,
        "restore(int) " + BOUNDS + " " + STATE,
    };
    private static final Set<Tree.Kind> NOT_ALLOWED = EnumSet.of(Tree.Kind.LAMBDA_EXPRESSION,
            Tree.Kind.MEMBER_REFERENCE, Tree.Kind.SYNCHRONIZED, Tree.Kind.ASSERT, Tree.Kind.TRY,
            Tree.Kind.INSTANCE_OF, Tree.Kind.TYPE_CAST);
    private static final Set<Tree.Kind> MASKS = EnumSet.of(Tree.Kind.AND, Tree.Kind.OR, Tree.Kind.XOR,
            Tree.Kind.AND_ASSIGNMENT, Tree.Kind.OR_ASSIGNMENT, Tree.Kind.XOR_ASSIGNMENT);

    public static void main(String[] args) throws Exception {
        checkFace();
        checkSource();
        Check.end("LanguageTest");
    }

    private static void checkFace() throws Exception {
        Class<?> c = DogBoard.class;
        Check.due("the class's modifiers", c.getModifiers(), Modifier.PUBLIC | Modifier.FINAL);
        Check.due("constructors", c.getDeclaredConstructors().length, 1);
        Check.due("the constructor's modifiers", c.getConstructor().getModifiers(), Modifier.PUBLIC);
        Set<String> found = new TreeSet<>();
        for (Method m : c.getDeclaredMethods()) {
            if (!Modifier.isPrivate(m.getModifiers()) && !m.isSynthetic()) {
                Check.due(m.getName() + "'s modifiers", m.getModifiers(), Modifier.PUBLIC);
                Check.isTrue(m.getName() + " answers an int", m.getReturnType() == int.class);
                found.add(signature(m));
            }
        }
        Check.same("the face", found.toString(), new TreeSet<>(Arrays.asList(FACE)).toString());
        for (Field f : c.getDeclaredFields()) {
            boolean isConstant = Modifier.isStatic(f.getModifiers()) && Modifier.isFinal(f.getModifiers());
            Check.isTrue(f + " is NONE, or private", f.getName().equals("NONE") || Modifier.isPrivate(f.getModifiers()));
            Check.isTrue(f + ": statics are final", isConstant || !Modifier.isStatic(f.getModifiers()));
        }
        Check.due("NONE's modifiers", c.getField("NONE").getModifiers(),
                Modifier.PUBLIC | Modifier.STATIC | Modifier.FINAL);
        for (Class<?> inside : c.getDeclaredClasses()) {
            Check.isTrue(inside + " is private and static",
                    (inside.getModifiers() & (Modifier.PRIVATE | Modifier.STATIC)) == (Modifier.PRIVATE | Modifier.STATIC));
        }
    }

    private static String signature(Method m) {
        List<String> parameters = new ArrayList<>();
        for (Class<?> p : m.getParameterTypes()) {
            parameters.add(p.getSimpleName());
        }
        StringBuilder all = new StringBuilder(m.getName() + "(" + String.join(",", parameters) + ")");
        for (Class<?> e : m.getExceptionTypes()) {
            all.append(' ').append(e.getSimpleName());
        }
        return all.toString();
    }

    private static void checkSource() throws Exception {
        JavaCompiler compiler = ToolProvider.getSystemJavaCompiler();
        try (StandardJavaFileManager files = compiler.getStandardFileManager(null, null, null)) {
            JavacTask task = (JavacTask) compiler.getTask(null, files, null, List.of("-proc:none"), null,
                    files.getJavaFileObjects(SOURCE));
            CompilationUnitTree unit = task.parse().iterator().next();
            task.analyze();
            Look look = new Look(unit, Trees.instance(task));
            look.scan(unit, null);
            look.checkCalls();
            Check.isTrue("classes: " + look.classes, look.classes <= MOST_CLASSES);
            Check.isTrue("no package", unit.getPackage() == null);
        }
    }

    private static final class Look extends TreePathScanner<Void, Void> {
        private final CompilationUnitTree unit;
        private final Trees trees;
        private final LineMap lines;
        private final Map<Element, Set<Element>> calls = new HashMap<>();
        private final Set<String> publicNames = new HashSet<>();
        private final List<String> otherNames = new ArrayList<>();
        private Element method;
        int classes;

        Look(CompilationUnitTree unit, Trees trees) {
            this.unit = unit;
            this.trees = trees;
            this.lines = unit.getLineMap();
        }

        private String at(Tree tree) {
            return "line " + lines.getLineNumber(trees.getSourcePositions().getStartPosition(unit, tree));
        }

        @Override
        public Void scan(Tree tree, Void none) {
            boolean isAllowed = tree == null || !NOT_ALLOWED.contains(tree.getKind())
                    || tree.getKind() == Tree.Kind.TYPE_CAST && tree.toString().startsWith("(int)");
            Check.isTrue(tree == null ? "nothing" : at(tree) + " has no " + tree.getKind(), isAllowed);
            return super.scan(tree, none);
        }

        /** Booleans are joined by && and ||: masks are for numbers. */
        private void checkMask(Tree tree) {
            boolean isMask = MASKS.contains(tree.getKind());
            Check.isTrue(at(tree) + " has no mask of booleans", !isMask
                    || trees.getTypeMirror(getCurrentPath()).getKind() != TypeKind.BOOLEAN);
        }

        @Override
        public Void visitBinary(BinaryTree tree, Void none) {
            checkMask(tree);
            return super.visitBinary(tree, none);
        }

        @Override
        public Void visitCompoundAssignment(CompoundAssignmentTree tree, Void none) {
            checkMask(tree);
            return super.visitCompoundAssignment(tree, none);
        }

        @Override
        public Void visitImport(ImportTree tree, Void none) {
            String name = tree.getQualifiedIdentifier().toString();
            Check.isTrue("import of " + name, Set.of("java.util.Arrays", "java.util.ArrayList", "java.util.List",
                    "java.util.Iterator", "java.util.NoSuchElementException").contains(name));
            return super.visitImport(tree, none);
        }

        @Override
        public Void visitClass(ClassTree tree, Void none) {
            classes++;
            int fields = 0;
            for (Tree member : tree.getMembers()) {
                boolean isField = member.getKind() == Tree.Kind.VARIABLE;
                Check.isTrue(at(member) + " is no block", member.getKind() != Tree.Kind.BLOCK);
                fields += isField && !member.toString().contains("static final") ? 1 : 0;
            }
            Check.isTrue(tree.getSimpleName() + ": fields " + fields, fields <= MOST_FIELDS);
            return super.visitClass(tree, none);
        }

        @Override
        public Void visitMethod(MethodTree tree, Void none) {
            SourcePositions positions = trees.getSourcePositions();
            long first = lines.getLineNumber(positions.getStartPosition(unit, tree));
            long last = positions.getEndPosition(unit, tree);
            long length = last < 0 ? 0 : lines.getLineNumber(last) - first + 1;
            String name = tree.getName().toString();
            Check.isTrue(name + " has " + length + " lines", length <= MOST_LINES);
            Check.isTrue(name + "'s parameters", tree.getParameters().size() <= MOST_PARAMETERS);
            if (tree.getModifiers().toString().contains("public")) {
                publicNames.add(name);
            } else if (!name.equals("<init>")) {
                otherNames.add(name);
            }
            Element before = method;
            method = trees.getElement(getCurrentPath());
            calls.put(method, new LinkedHashSet<>());
            super.visitMethod(tree, none);
            method = before;
            return null;
        }

        @Override
        public Void visitMethodInvocation(MethodInvocationTree tree, Void none) {
            note(tree);
            return super.visitMethodInvocation(tree, none);
        }

        @Override
        public Void visitNewClass(NewClassTree tree, Void none) {
            note(tree);
            return super.visitNewClass(tree, none);
        }

        private void note(Tree tree) {
            Element called = trees.getElement(new TreePath(getCurrentPath(), tree));
            if (method != null && called != null) {
                calls.get(method).add(called);
            }
        }

        @Override
        public Void visitThrow(ThrowTree tree, Void none) {
            Check.isTrue(at(tree) + " throws what the document names", tree.getExpression().toString()
                    .matches("new (" + BOUNDS + "|" + ARGUMENT + "|" + STATE + ")\\(\"[^\"]*\"\\)"));
            Check.isTrue(at(tree) + " is in no constructor", !method.getSimpleName().contentEquals("<init>"));
            return super.visitThrow(tree, none);
        }

        void checkCalls() {
            for (String name : otherNames) {
                Check.isTrue(name + " does not bear the name of a public one", !publicNames.contains(name));
            }
            int deepest = 0;
            for (Element each : calls.keySet()) {
                deepest = Math.max(deepest, depth(each, new ArrayList<>()));
            }
            Check.isTrue("calls go " + deepest + " deep", deepest <= MOST_DEPTH);
            System.out.println("LanguageTest: calls go " + deepest + " deep");
        }

        private int depth(Element each, List<Element> open) {
            if (open.contains(each)) {
                Check.isTrue("no recursion by " + each, false);
                return 0;
            }
            open.add(each);
            int below = 0;
            for (Element called : calls.getOrDefault(each, Set.of())) {
                below = Math.max(below, depth(called, open));
            }
            open.remove(open.size() - 1);
            return below + 1;
        }
    }
}
