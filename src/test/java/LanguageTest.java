import com.sun.source.tree.AssertTree;
import com.sun.source.tree.BinaryTree;
import com.sun.source.tree.BlockTree;
import com.sun.source.tree.ClassTree;
import com.sun.source.tree.CompilationUnitTree;
import com.sun.source.tree.CompoundAssignmentTree;
import com.sun.source.tree.ExpressionTree;
import com.sun.source.tree.LambdaExpressionTree;
import com.sun.source.tree.MemberReferenceTree;
import com.sun.source.tree.MethodInvocationTree;
import com.sun.source.tree.MethodTree;
import com.sun.source.tree.NewClassTree;
import com.sun.source.tree.SynchronizedTree;
import com.sun.source.tree.ThrowTree;
import com.sun.source.tree.Tree;
import com.sun.source.tree.TryTree;
import com.sun.source.tree.TypeCastTree;
import com.sun.source.tree.VariableTree;
import com.sun.source.util.JavacTask;
import com.sun.source.util.TreePath;
import com.sun.source.util.TreePathScanner;
import com.sun.source.util.Trees;
import java.io.File;
import java.io.IOException;
import java.util.ArrayList;
import java.util.HashSet;
import java.util.List;
import java.util.Map;
import java.util.Set;
import java.util.TreeMap;
import java.util.TreeSet;
import javax.lang.model.element.Element;
import javax.lang.model.element.ElementKind;
import javax.lang.model.element.Modifier;
import javax.lang.model.type.TypeKind;
import javax.lang.model.type.TypeMirror;
import javax.tools.JavaCompiler;
import javax.tools.StandardJavaFileManager;
import javax.tools.ToolProvider;

/**
 * The program keeps to the rules of LANGUAGE.md that the compiler's tree of it can show. It needs less than they
 * leave (no double, no list, no catch), and the test allows no more than it needs: widen it by the rules.
 */
public final class LanguageTest {
    private static final String PROGRAM = "src/main/java/LaundrySky.java";
    private static final int MOST_METHOD_LINES = 60;
    private static final int MOST_PARAMETERS = 7;
    private static final int MOST_CLASSES = 12;
    private static final int MOST_FIELDS = 20;
    private static final int MOST_CALLS = 8;

    /** Rule 4, of which the program uses a part; none of the functions that end in Exact. */
    private static final Set<String> LIBRARY = Set.of(
        "java.lang.String.length", "java.lang.String.charAt", "java.lang.String.isEmpty", "java.lang.String.equals",
        "java.lang.String.indexOf", "java.lang.String.substring", "java.lang.String.toCharArray",
        "java.lang.Integer.bitCount", "java.lang.Integer.numberOfTrailingZeros", "java.lang.Integer.compare",
        "java.lang.Integer.max", "java.lang.Integer.min", "java.lang.Long.bitCount", "java.lang.Long.compare",
        "java.lang.Math.max", "java.lang.Math.min", "java.lang.Math.abs", "java.lang.Math.floorDiv",
        "java.lang.Math.floorMod", "java.lang.System.arraycopy", "java.util.Arrays.copyOf",
        "java.util.Arrays.copyOfRange", "java.util.Arrays.fill");
    /** Rule 6. */
    private static final Set<String> EXCEPTIONS = Set.of("IllegalStateException", "IllegalArgumentException",
        "IndexOutOfBoundsException", "ArithmeticException", "UnsupportedOperationException",
        "NoSuchElementException", "RuntimeException");
    private static final Set<String> CONSTANTS = Set.of("int", "long", "boolean", "char", "java.lang.String",
        "int[]", "long[]", "char[]", "byte[]");
    private static final Set<String> ENUM_FIELDS = Set.of("int", "long", "boolean", "java.lang.String");
    private static final Due DUE = new Due();

    private static final class Reader extends TreePathScanner<Void, Void> {
        private final Trees trees;
        private final CompilationUnitTree unit;
        private final Set<String> classes = new HashSet<>();
        private final Set<String> publicNames = new TreeSet<>();
        private final Set<String> otherNames = new TreeSet<>();
        /** By method, those of the program that it calls. */
        private final Map<String, Set<String>> calls = new TreeMap<>();
        private String method = "";
        private boolean constructing = false;

        Reader(Trees trees, CompilationUnitTree unit) {
            this.trees = trees;
            this.unit = unit;
        }

        private void rule(int number, Tree at, String what, boolean kept) {
            long line = unit.getLineMap().getLineNumber(trees.getSourcePositions().getStartPosition(unit, at));
            DUE.due("rule " + number + ", line " + line + ": " + what, kept, true);
        }

        private TypeMirror type(Tree tree) {
            return trees.getTypeMirror(new TreePath(getCurrentPath(), tree));
        }

        private boolean isText(Tree tree) {
            TypeMirror type = type(tree);
            return type != null && type.toString().equals("java.lang.String");
        }

        @Override
        public Void visitClass(ClassTree tree, Void none) {
            Element element = trees.getElement(getCurrentPath());
            classes.add(element.toString());
            boolean outer = element.toString().equals("LaundrySky");
            rule(2, tree, "a class inside is static", outer || element.getModifiers().contains(Modifier.STATIC));
            rule(1, tree, "a class inside is private or package-visible", outer
                || !element.getModifiers().contains(Modifier.PUBLIC)
                && !element.getModifiers().contains(Modifier.PROTECTED));
            int fields = 0;
            for (Element member : element.getEnclosedElements()) {
                if (member.getKind() == ElementKind.FIELD && !member.getModifiers().contains(Modifier.STATIC)) {
                    fields++;
                    rule(2, tree, "an enum's field " + member, element.getKind() != ElementKind.ENUM
                        || ENUM_FIELDS.contains(member.asType().toString()));
                }
            }
            rule(11, tree, fields + " fields", fields <= MOST_FIELDS);
            for (Tree member : tree.getMembers()) {
                rule(5, tree, "no initialiser block", !(member instanceof BlockTree));
            }
            return super.visitClass(tree, none);
        }

        @Override
        public Void visitVariable(VariableTree tree, Void none) {
            Element element = trees.getElement(getCurrentPath());
            if (element.getKind() == ElementKind.FIELD && element.getModifiers().contains(Modifier.STATIC)) {
                rule(5, tree, tree.getName() + " is final", element.getModifiers().contains(Modifier.FINAL));
                boolean values = tree.getInitializer() != null && tree.getInitializer().toString().equals("values()");
                rule(5, tree, tree.getName() + " is a constant",
                    values || CONSTANTS.contains(element.asType().toString()));
            }
            rule(3, tree, tree.getName() + " is no double", element.asType().getKind() != TypeKind.DOUBLE);
            rule(3, tree, tree.getName() + " is no float", element.asType().getKind() != TypeKind.FLOAT);
            rule(3, tree, tree.getName() + " has a type of the program's",
                isKnown(element.asType().toString()));
            return super.visitVariable(tree, none);
        }

        private boolean isKnown(String type) {
            String bare = type.replace("[]", "");
            return Set.of("int", "long", "short", "byte", "char", "boolean", "java.lang.String").contains(bare)
                || bare.startsWith("LaundrySky");
        }

        @Override
        public Void visitMethod(MethodTree tree, Void none) {
            Element element = trees.getElement(getCurrentPath());
            method = element.getEnclosingElement() + "." + element;
            constructing = element.getKind() == ElementKind.CONSTRUCTOR;
            calls.computeIfAbsent(method, key -> new TreeSet<>());
            boolean face = element.getEnclosingElement().toString().equals("LaundrySky")
                && element.getModifiers().contains(Modifier.PUBLIC);
            if (element.getKind() == ElementKind.METHOD) {
                (face ? publicNames : otherNames).add(tree.getName().toString());
            }
            rule(11, tree, method + " has too many parameters", tree.getParameters().size() <= MOST_PARAMETERS);
            long first = unit.getLineMap().getLineNumber(trees.getSourcePositions().getStartPosition(unit, tree));
            long end = trees.getSourcePositions().getEndPosition(unit, tree);
            long last = end < 0 ? first : unit.getLineMap().getLineNumber(end);
            rule(11, tree, method + " is too long", last - first + 1 <= MOST_METHOD_LINES);
            super.visitMethod(tree, none);
            method = "";
            return null;
        }

        @Override
        public Void visitMethodInvocation(MethodInvocationTree tree, Void none) {
            Element called = trees.getElement(getCurrentPath());
            String owner = called.getEnclosingElement().toString();
            String name = owner + "." + called.getSimpleName();
            if (classes.contains(owner) || owner.startsWith("LaundrySky")) {
                calls.computeIfAbsent(method, key -> new TreeSet<>()).add(owner + "." + called);
            } else {
                boolean superCall = called.getKind() == ElementKind.CONSTRUCTOR;
                rule(4, tree, name + " is no part of the library", superCall || LIBRARY.contains(name));
            }
            return super.visitMethodInvocation(tree, none);
        }

        @Override
        public Void visitNewClass(NewClassTree tree, Void none) {
            Element made = trees.getElement(getCurrentPath());
            String owner = made.getEnclosingElement().toString();
            rule(2, tree, "no class without a name", tree.getClassBody() == null);
            if (owner.startsWith("LaundrySky")) {
                calls.computeIfAbsent(method, key -> new TreeSet<>()).add(owner + "." + made);
            } else {
                rule(4, tree, "new " + owner, getCurrentPath().getParentPath().getLeaf() instanceof ThrowTree);
            }
            return super.visitNewClass(tree, none);
        }

        @Override
        public Void visitThrow(ThrowTree tree, Void none) {
            boolean isNew = tree.getExpression() instanceof NewClassTree made
                && EXCEPTIONS.contains(made.getIdentifier().toString());
            rule(6, tree, "an exception of the rule, made there", isNew);
            rule(6, tree, "no throw in a constructor", !constructing);
            return super.visitThrow(tree, none);
        }

        @Override
        public Void visitTry(TryTree tree, Void none) {
            // the document asks for no catch anywhere; one that answered for the machine would be refused
            rule(6, tree, "no try", false);
            return super.visitTry(tree, none);
        }

        @Override
        public Void visitBinary(BinaryTree tree, Void none) {
            boolean texts = isText(tree.getLeftOperand()) || isText(tree.getRightOperand());
            rule(10, tree, "no text is joined or compared by an operator", !texts);
            if (tree.getKind() == Tree.Kind.DIVIDE || tree.getKind() == Tree.Kind.REMAINDER) {
                divides(tree, tree.getRightOperand());
            }
            return super.visitBinary(tree, none);
        }

        /** Rule 7: by a constant other than 0, or by the name that the same line holds against 0. */
        private void divides(Tree tree, ExpressionTree divisor) {
            String name = divisor.toString();
            boolean constant = name.matches("[1-9][0-9]*L?|MOST_UNDONE");
            TreePath path = getCurrentPath();
            boolean tested = false;
            for (int i = 0; i < 5 && path != null; i++) {
                tested |= path.getLeaf().toString().contains(name + " > 0 ?");
                path = path.getParentPath();
            }
            rule(7, tree, "the divisor " + name + " is not 0", constant || tested);
        }

        @Override
        public Void visitCompoundAssignment(CompoundAssignmentTree tree, Void none) {
            rule(10, tree, "no text is joined by an operator", !isText(tree.getVariable()));
            rule(7, tree, "nothing is divided in place", tree.getKind() != Tree.Kind.DIVIDE_ASSIGNMENT
                && tree.getKind() != Tree.Kind.REMAINDER_ASSIGNMENT);
            return super.visitCompoundAssignment(tree, none);
        }

        @Override
        public Void visitTypeCast(TypeCastTree tree, Void none) {
            rule(6, tree, "a cast between numbers alone", type(tree.getType()).getKind().isPrimitive());
            return super.visitTypeCast(tree, none);
        }

        @Override
        public Void visitLambdaExpression(LambdaExpressionTree tree, Void none) {
            rule(2, tree, "no lambda", false);
            return super.visitLambdaExpression(tree, none);
        }

        @Override
        public Void visitMemberReference(MemberReferenceTree tree, Void none) {
            rule(2, tree, "no method reference", false);
            return super.visitMemberReference(tree, none);
        }

        @Override
        public Void visitSynchronized(SynchronizedTree tree, Void none) {
            rule(6, tree, "no synchronized", false);
            return super.visitSynchronized(tree, none);
        }

        @Override
        public Void visitAssert(AssertTree tree, Void none) {
            rule(6, tree, "no assert", false);
            return super.visitAssert(tree, none);
        }

        private void whole() {
            DUE.due("rule 11: " + classes.size() + " classes are too many", classes.size() <= MOST_CLASSES, true);
            for (String name : otherNames) {
                DUE.due("rule 1: " + name + " bears the name of a public method", publicNames.contains(name), false);
            }
            DUE.due("the methods of the face were found", publicNames.size() == 33, true);
            for (String from : calls.keySet()) {
                int deep = depth(from);
                DUE.due("rule 11: " + from + " stands " + deep + " calls deep", deep <= MOST_CALLS, true);
            }
        }

        /** The most calls that stand at once from a method on; methods that call one another (rule 8) count once. */
        private int depth(String from) {
            Set<String> circle = new TreeSet<>(reached(from));
            circle.removeIf(other -> !reached(other).contains(from));
            circle.add(from);
            int most = 0;
            for (String one : circle) {
                for (String called : calls.getOrDefault(one, Set.of())) {
                    most = Math.max(most, circle.contains(called) ? 0 : depth(called));
                }
            }
            return most + 1;
        }

        /** All methods that a method calls, or that those call. */
        private Set<String> reached(String from) {
            Set<String> reached = new TreeSet<>();
            List<String> open = new ArrayList<>(List.of(from));
            while (!open.isEmpty()) {
                for (String called : calls.getOrDefault(open.remove(0), Set.of())) {
                    if (reached.add(called)) {
                        open.add(called);
                    }
                }
            }
            return reached;
        }
    }

    public static void main(String[] args) throws IOException {
        JavaCompiler compiler = ToolProvider.getSystemJavaCompiler();
        DUE.due("the compiler is there", compiler != null, true);
        if (compiler != null) {
            read(compiler);
        }
        DUE.end("LanguageTest");
    }

    private static void read(JavaCompiler compiler) throws IOException {
        try (StandardJavaFileManager files = compiler.getStandardFileManager(null, null, null)) {
            JavacTask task = (JavacTask) compiler.getTask(null, files, null, List.of("-proc:none"), null,
                files.getJavaFileObjects(new File(PROGRAM)));
            for (CompilationUnitTree unit : task.parse()) {
                task.analyze();
                DUE.due("no package", unit.getPackageName() == null, true);
                Reader reader = new Reader(Trees.instance(task), unit);
                reader.scan(unit, null);
                reader.whole();
            }
        }
    }
}
