import com.sun.source.tree.ArrayAccessTree;
import com.sun.source.tree.BinaryTree;
import com.sun.source.tree.CompilationUnitTree;
import com.sun.source.tree.CompoundAssignmentTree;
import com.sun.source.tree.IdentifierTree;
import com.sun.source.tree.LambdaExpressionTree;
import com.sun.source.tree.MemberReferenceTree;
import com.sun.source.tree.MemberSelectTree;
import com.sun.source.tree.MethodInvocationTree;
import com.sun.source.tree.MethodTree;
import com.sun.source.tree.NewArrayTree;
import com.sun.source.tree.NewClassTree;
import com.sun.source.tree.ThrowTree;
import com.sun.source.tree.Tree;
import com.sun.source.tree.TryTree;
import com.sun.source.tree.TypeCastTree;
import com.sun.source.util.JavacTask;
import com.sun.source.util.TreePathScanner;
import com.sun.source.util.Trees;
import java.io.IOException;
import java.nio.file.Path;
import java.util.HashMap;
import java.util.List;
import java.util.Map;
import java.util.Set;
import java.util.TreeSet;
import javax.lang.model.element.Element;
import javax.lang.model.element.ElementKind;
import javax.lang.model.element.ExecutableElement;
import javax.lang.model.element.Modifier;
import javax.lang.model.element.TypeElement;
import javax.lang.model.type.TypeKind;
import javax.lang.model.type.TypeMirror;
import javax.tools.JavaCompiler;
import javax.tools.StandardJavaFileManager;
import javax.tools.ToolProvider;

/**
 * The rules of LANGUAGE.md that need the compiler's eyes: what of the library is used, which types there are, that no
 * call comes back to itself, how deep calls go, and that indices and divisors stand only where they are tested.
 */
public final class CallsTest {
    private static final String SOURCE = "src/main/java/LatticeGrader.java";
    private static final int DEEPEST = 8;
    /** All of the library that the class needs; each stands in rule 4. */
    private static final Set<String> LIBRARY = Set.of(
        "java.lang.String.length()", "java.lang.String.charAt(int)",
        "java.lang.StringBuilder.StringBuilder()", "java.lang.StringBuilder.append(char)",
        "java.lang.StringBuilder.append(java.lang.String)", "java.lang.StringBuilder.append(int)",
        "java.lang.StringBuilder.charAt(int)", "java.lang.StringBuilder.setLength(int)",
        "java.lang.StringBuilder.length()", "java.lang.Integer.compare(int,int)", "java.lang.Integer.bitCount(int)",
        "java.lang.Math.max(int,int)", "java.lang.Math.min(int,int)", "java.lang.Math.abs(int)",
        "java.lang.Math.abs(long)", "java.lang.Object.Object()");
    private static final Set<String> TYPES = Set.of(
        "int", "long", "boolean", "char", "int[]", "long[]", "java.lang.String", "java.lang.StringBuilder");
    /** These test an index themselves. */
    private static final Set<String> TESTING_INDICES = Set.of("LatticeGrader.Ints.get", "LatticeGrader.Ints.set",
        "LatticeGrader.Ints.copyFrom", "LatticeGrader.Shelves.get", "LatticeGrader.Shelves.set");
    /** These test a divisor themselves. */
    private static final Set<String> TESTING_DIVISORS = Set.of(
        "LatticeGrader.Fraction.make", "LatticeGrader.Fraction.add", "LatticeGrader.Fraction.commonOf");
    /** In these a row is made, of a length that is tested or a constant. */
    private static final Set<String> MAKING_ROWS = Set.of("LatticeGrader.Ints.Ints", "LatticeGrader.Shelves");

    private static int wrong;

    private final Trees trees;
    private final Map<String, Set<String>> calls = new HashMap<>();
    private final Set<String> face = new TreeSet<>();

    private CallsTest(Trees trees) {
        this.trees = trees;
    }

    public static void main(String[] args) throws IOException {
        JavaCompiler compiler = ToolProvider.getSystemJavaCompiler();
        try (StandardJavaFileManager files = compiler.getStandardFileManager(null, null, null)) {
            JavacTask task = (JavacTask) compiler.getTask(null, files, null, List.of("-proc:none"), null,
                files.getJavaFileObjects(Path.of(args.length > 0 ? args[0] : SOURCE)));
            CallsTest test = new CallsTest(Trees.instance(task));
            Iterable<? extends CompilationUnitTree> units = task.parse();
            task.analyze();
            for (CompilationUnitTree unit : units) {
                test.new Eyes().scan(unit, null);
            }
            test.depths();
        }
        System.out.println(wrong == 0 ? "the calls are as the language asks" : wrong + " places are against the language");
        if (wrong != 0) {
            System.exit(1);
        }
    }

    private static void due(boolean fine, String what) {
        if (!fine) {
            wrong++;
            System.out.println("against the language: " + what);
        }
    }

    private void depths() {
        due(face.size() == 42, "the calls of the face: " + face.size());
        int deepest = 0;
        for (String call : face) {
            deepest = Math.max(deepest, depth(call, new TreeSet<>(), new HashMap<>()));
        }
        due(deepest <= DEEPEST, "calls go " + deepest + " deep");
        due(deepest > 3, "so shallow that this test has seen too little: " + deepest);
    }

    private int depth(String of, Set<String> open, Map<String, Integer> known) {
        if (known.containsKey(of)) {
            return known.get(of);
        }
        if (!open.add(of)) {
            due(false, "comes back to itself: " + of);
            return 1;
        }
        int deepest = 0;
        for (String called : calls.getOrDefault(of, Set.of())) {
            deepest = Math.max(deepest, depth(called, open, known));
        }
        open.remove(of);
        known.put(of, deepest + 1);
        return deepest + 1;
    }

    private static boolean isOwn(String name) {
        return name.equals("LatticeGrader") || name.startsWith("LatticeGrader.");
    }

    private static String nameOf(Element e) {
        return e.getEnclosingElement() + "." + e.getSimpleName();
    }

    private final class Eyes extends TreePathScanner<Void, Void> {
        /** The method that is looked at, or the class, in its fields. */
        private String within = "";

        private void place(boolean fine, String what) {
            due(fine, what + " in " + within);
        }

        private void call(Element to) {
            // What a StringBuilder answers stands, for the compiler, in the class above it.
            String owner = to.getEnclosingElement().toString().replace("AbstractStringBuilder", "StringBuilder");
            if (isOwn(owner)) {
                calls.computeIfAbsent(within, k -> new TreeSet<>()).add(owner + "." + to);
            } else {
                place(LIBRARY.contains(owner + "." + told(to)), "of the library " + owner + "." + told(to));
            }
        }

        /** With its parameters; a constructor by the short name of its class. */
        private String told(Element e) {
            return e.getKind() == ElementKind.CONSTRUCTOR
                ? e.toString().replaceFirst("^[^(]*", e.getEnclosingElement().getSimpleName().toString()) : e.toString();
        }

        private void type(TypeMirror type) {
            place(TYPES.contains(type.toString()) || type.getKind() == TypeKind.VOID || isOwn(type.toString()),
                "the type " + type);
        }

        @Override
        public Void visitClass(com.sun.source.tree.ClassTree tree, Void none) {
            String before = within;
            within = trees.getElement(getCurrentPath()).toString();
            super.visitClass(tree, none);
            within = before;
            return null;
        }

        @Override
        public Void visitMethod(MethodTree tree, Void none) {
            String before = within;
            Element e = trees.getElement(getCurrentPath());
            within = e.getEnclosingElement() + "." + e;
            boolean isOfFace = e.getModifiers().contains(Modifier.PUBLIC) && e.getKind() == ElementKind.METHOD;
            if (isOfFace) {
                face.add(within);
            }
            if (e.getKind() == ElementKind.METHOD) {
                type(((ExecutableElement) e).getReturnType());
            }
            super.visitMethod(tree, none);
            within = before;
            return null;
        }

        @Override
        public Void visitVariable(com.sun.source.tree.VariableTree tree, Void none) {
            type(trees.getElement(getCurrentPath()).asType());
            return super.visitVariable(tree, none);
        }

        @Override
        public Void visitMethodInvocation(MethodInvocationTree tree, Void none) {
            call(trees.getElement(getCurrentPath()));
            return super.visitMethodInvocation(tree, none);
        }

        @Override
        public Void visitNewClass(NewClassTree tree, Void none) {
            call(trees.getElement(getCurrentPath()));
            // All objects are made with the object itself: no call of the face makes any.
            due(!within.contains("("), "an object is made in " + within);
            return super.visitNewClass(tree, none);
        }

        @Override
        public Void visitNewArray(NewArrayTree tree, Void none) {
            place(isIn(MAKING_ROWS), "a row is made");
            return super.visitNewArray(tree, none);
        }

        @Override
        public Void visitArrayAccess(ArrayAccessTree tree, Void none) {
            place(isIn(TESTING_INDICES), "an index");
            return super.visitArrayAccess(tree, none);
        }

        private boolean isIn(Set<String> names) {
            int end = within.indexOf('(');
            return names.contains(end < 0 ? within : within.substring(0, end));
        }

        @Override
        public Void visitBinary(BinaryTree tree, Void none) {
            boolean divides = tree.getKind() == Tree.Kind.DIVIDE || tree.getKind() == Tree.Kind.REMAINDER;
            boolean byLiteral = tree.getRightOperand().getKind() == Tree.Kind.INT_LITERAL
                && !tree.getRightOperand().toString().equals("0");
            place(!divides || byLiteral || isIn(TESTING_DIVISORS), "a divisor");
            place(!trees.getTypeMirror(getCurrentPath()).toString().equals("java.lang.String"), "texts joined by +");
            return super.visitBinary(tree, none);
        }

        @Override
        public Void visitCompoundAssignment(CompoundAssignmentTree tree, Void none) {
            boolean divides = tree.getKind() == Tree.Kind.DIVIDE_ASSIGNMENT
                || tree.getKind() == Tree.Kind.REMAINDER_ASSIGNMENT;
            place(!divides || tree.getExpression().getKind() == Tree.Kind.INT_LITERAL, "a divisor");
            place(!trees.getTypeMirror(getCurrentPath()).toString().equals("java.lang.String"), "texts joined by +=");
            return super.visitCompoundAssignment(tree, none);
        }

        @Override
        public Void visitMemberSelect(MemberSelectTree tree, Void none) {
            field(trees.getElement(getCurrentPath()));
            return super.visitMemberSelect(tree, none);
        }

        @Override
        public Void visitIdentifier(IdentifierTree tree, Void none) {
            field(trees.getElement(getCurrentPath()));
            return super.visitIdentifier(tree, none);
        }

        private void field(Element e) {
            if (e != null && e.getKind() == ElementKind.FIELD) {
                boolean isLength = nameOf(e).equals("Array.length");
                place(isLength || e.getEnclosingElement() instanceof TypeElement t && isOwn(t.toString()),
                    "a field of the library " + nameOf(e));
            }
        }

        @Override
        public Void visitTypeCast(TypeCastTree tree, Void none) {
            place(trees.getTypeMirror(getCurrentPath()).getKind().isPrimitive(), "a cast of a reference");
            return super.visitTypeCast(tree, none);
        }

        @Override
        public Void visitThrow(ThrowTree tree, Void none) {
            place(false, "throw");
            return super.visitThrow(tree, none);
        }

        @Override
        public Void visitTry(TryTree tree, Void none) {
            place(false, "try");
            return super.visitTry(tree, none);
        }

        @Override
        public Void visitLambdaExpression(LambdaExpressionTree tree, Void none) {
            place(false, "a lambda");
            return super.visitLambdaExpression(tree, none);
        }

        @Override
        public Void visitMemberReference(MemberReferenceTree tree, Void none) {
            place(false, "a method reference");
            return super.visitMemberReference(tree, none);
        }
    }
}
