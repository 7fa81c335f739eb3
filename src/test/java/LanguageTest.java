import com.sun.source.tree.AssertTree;
import com.sun.source.tree.BinaryTree;
import com.sun.source.tree.CatchTree;
import com.sun.source.tree.ClassTree;
import com.sun.source.tree.CompilationUnitTree;
import com.sun.source.tree.CompoundAssignmentTree;
import com.sun.source.tree.EnhancedForLoopTree;
import com.sun.source.tree.ExpressionTree;
import com.sun.source.tree.ForLoopTree;
import com.sun.source.tree.ImportTree;
import com.sun.source.tree.LambdaExpressionTree;
import com.sun.source.tree.LiteralTree;
import com.sun.source.tree.MemberReferenceTree;
import com.sun.source.tree.MethodInvocationTree;
import com.sun.source.tree.MethodTree;
import com.sun.source.tree.NewArrayTree;
import com.sun.source.tree.NewClassTree;
import com.sun.source.tree.SwitchExpressionTree;
import com.sun.source.tree.SynchronizedTree;
import com.sun.source.tree.ThrowTree;
import com.sun.source.tree.Tree;
import com.sun.source.tree.TryTree;
import com.sun.source.tree.TypeCastTree;
import com.sun.source.tree.VariableTree;
import com.sun.source.util.JavacTask;
import com.sun.source.util.TreePath;
import com.sun.source.util.TreePathScanner;
import com.sun.source.util.Trees;
import java.io.File;
import java.util.ArrayList;
import java.util.HashMap;
import java.util.HashSet;
import java.util.LinkedHashMap;
import java.util.List;
import java.util.Map;
import java.util.Set;
import java.util.TreeSet;
import javax.lang.model.element.Element;
import javax.lang.model.element.ElementKind;
import javax.lang.model.element.ExecutableElement;
import javax.lang.model.element.Modifier;
import javax.lang.model.type.TypeKind;
import javax.lang.model.type.TypeMirror;
import javax.tools.JavaCompiler;
import javax.tools.StandardJavaFileManager;
import javax.tools.ToolProvider;

/**
 * The class keeps to the rules of ../shared/LANGUAGE.md that can be read off its text, and to the
 * part of them that it uses: it makes objects in constructors alone, calls nothing again that is
 * open, and takes little of the library.
 */
public final class LanguageTest {
    private static final String SOURCE = "src/main/java/LordsRoad.java";
    private static final int MOST_LINES = 60;
    private static final int MOST_PARAMETERS = 7;
    private static final int MOST_CLASSES = 12;
    private static final int MOST_FIELDS = 20;
    private static final int MOST_DEPTH = 8;
    private static final Set<String> IMPORTS = Set.of("java.util.NoSuchElementException");
    /** What the class takes of the library, which is less than rule 4 lets it take. */
    private static final Set<String> LIBRARY = Set.of(
            "java.lang.String.length", "java.lang.String.charAt",
            "java.lang.Math.max", "java.lang.Math.min", "java.lang.Math.abs",
            "java.lang.Object.<init>",
            "java.lang.IndexOutOfBoundsException.<init>", "java.util.NoSuchElementException.<init>");
    private static final Set<TypeKind> NUMBERS = Set.of(
            TypeKind.INT, TypeKind.LONG, TypeKind.SHORT, TypeKind.BYTE, TypeKind.CHAR, TypeKind.BOOLEAN);

    private static int wrong = 0;
    private static int checks = 0;

    private LanguageTest() {
    }

    public static void main(String[] args) throws Exception {
        JavaCompiler compiler = ToolProvider.getSystemJavaCompiler();
        try (StandardJavaFileManager files = compiler.getStandardFileManager(null, null, null)) {
            JavacTask task = (JavacTask) compiler.getTask(null, files, null, List.of("-proc:none"), null,
                    files.getJavaFileObjects(new File(args.length > 0 ? args[0] : SOURCE)));
            CompilationUnitTree unit = task.parse().iterator().next();
            task.analyze();
            Rules rules = new Rules(Trees.instance(task), unit);
            rules.scan(unit, null);
            rules.end();
        }
        System.out.println(checks + " places of the text looked at, " + wrong + " wrong");
        if (wrong != 0) {
            System.exit(1);
        }
    }

    private static final class Rules extends TreePathScanner<Void, Void> {
        private final Trees trees;
        private final CompilationUnitTree unit;
        private final Set<String> publicNames = new HashSet<>();
        private final Set<String> privateNames = new HashSet<>();
        private final Map<Element, Set<Element>> calls = new LinkedHashMap<>();
        private final Map<Element, Integer> depths = new HashMap<>();
        private final List<Element> open = new ArrayList<>();
        private Element method;
        private int classes;

        Rules(Trees trees, CompilationUnitTree unit) {
            this.trees = trees;
            this.unit = unit;
        }

        private void due(int rule, Tree where, String what, boolean holds) {
            checks++;
            if (!holds) {
                wrong++;
                long line = unit.getLineMap().getLineNumber(trees.getSourcePositions().getStartPosition(unit, where));
                System.out.println("rule " + rule + ", line " + line + ": " + what);
            }
        }

        private Element elementOf(Tree tree) {
            return trees.getElement(TreePath.getPath(unit, tree));
        }

        private TypeMirror typeOf(Tree tree) {
            return trees.getTypeMirror(TreePath.getPath(unit, tree));
        }

        private boolean isOwn(Element e) {
            Element outermost = e;
            while (outermost.getEnclosingElement() != null
                    && outermost.getEnclosingElement().getKind() != ElementKind.PACKAGE) {
                outermost = outermost.getEnclosingElement();
            }
            return outermost.getSimpleName().contentEquals("LordsRoad");
        }

        @Override
        public Void visitCompilationUnit(CompilationUnitTree t, Void v) {
            due(1, t, "no package line", t.getPackageName() == null);
            due(1, t, "one class in the file", t.getTypeDecls().size() == 1);
            return super.visitCompilationUnit(t, v);
        }

        @Override
        public Void visitImport(ImportTree t, Void v) {
            due(4, t, "import " + t.getQualifiedIdentifier(),
                    !t.isStatic() && IMPORTS.contains(t.getQualifiedIdentifier().toString()));
            return null;
        }

        @Override
        public Void visitClass(ClassTree t, Void v) {
            Element e = elementOf(t);
            boolean outermost = e.getEnclosingElement().getKind() == ElementKind.PACKAGE;
            Set<Modifier> marks = e.getModifiers();
            due(1, t, "the class is public and final",
                    !outermost || marks.contains(Modifier.PUBLIC) && marks.contains(Modifier.FINAL));
            due(1, t, "a class inside is private and static",
                    outermost || marks.contains(Modifier.PRIVATE) && marks.contains(Modifier.STATIC));
            if (!outermost) {
                classes++;
            }
            due(11, t, "at most twelve classes", classes <= MOST_CLASSES);
            int fields = 0;
            for (Tree member : t.getMembers()) {
                due(5, member, "no initialiser block", member.getKind() != Tree.Kind.BLOCK);
                if (member instanceof VariableTree && !elementOf(member).getModifiers().contains(Modifier.STATIC)) {
                    fields++;
                }
            }
            due(11, t, "at most twenty fields", fields <= MOST_FIELDS);
            return super.visitClass(t, v);
        }

        @Override
        public Void visitVariable(VariableTree t, Void v) {
            Element e = elementOf(t);
            due(3, t, "the type " + e.asType(), isPlainType(e.asType()));
            if (e.getModifiers().contains(Modifier.STATIC)) {
                due(5, t, "a static field is final and a constant", e.getModifiers().contains(Modifier.FINAL)
                        && !(e.asType().getKind() == TypeKind.ARRAY) && t.getInitializer() != null);
            }
            return super.visitVariable(t, v);
        }

        private boolean isPlainType(TypeMirror type) {
            if (type.getKind() == TypeKind.ARRAY) {
                return isPlainType(((javax.lang.model.type.ArrayType) type).getComponentType())
                        && ((javax.lang.model.type.ArrayType) type).getComponentType().getKind() != TypeKind.ARRAY;
            }
            if (type.getKind() == TypeKind.DECLARED) {
                Element e = ((javax.lang.model.type.DeclaredType) type).asElement();
                return isOwn(e) || type.toString().equals("java.lang.String");
            }
            return NUMBERS.contains(type.getKind());
        }

        @Override
        public Void visitMethod(MethodTree t, Void v) {
            Element e = elementOf(t);
            Element before = method;
            method = e;
            calls.putIfAbsent(e, new HashSet<>());
            if (e.getKind() == ElementKind.METHOD) {
                (e.getModifiers().contains(Modifier.PUBLIC) ? publicNames : privateNames)
                        .add(e.getSimpleName().toString());
            }
            due(11, t, "at most seven parameters", t.getParameters().size() <= MOST_PARAMETERS);
            long end = trees.getSourcePositions().getEndPosition(unit, t);
            if (end >= 0) {
                long from = unit.getLineMap().getLineNumber(trees.getSourcePositions().getStartPosition(unit, t));
                due(11, t, "a short method", unit.getLineMap().getLineNumber(end) - from < MOST_LINES);
            }
            super.visitMethod(t, v);
            method = before;
            return null;
        }

        @Override
        public Void visitMethodInvocation(MethodInvocationTree t, Void v) {
            noteCall(t, elementOf(t.getMethodSelect()));
            return super.visitMethodInvocation(t, v);
        }

        private void noteCall(Tree t, Element called) {
            if (isOwn(called)) {
                calls.computeIfAbsent(method, k -> new HashSet<>()).add(called);
            } else {
                String name = called.getEnclosingElement() + "." + called.getSimpleName();
                due(4, t, "the library's " + name, LIBRARY.contains(name));
            }
        }

        @Override
        public Void visitNewClass(NewClassTree t, Void v) {
            due(2, t, "no anonymous class", t.getClassBody() == null);
            boolean thrown = getCurrentPath().getParentPath().getLeaf() instanceof ThrowTree;
            due(12, t, "objects come of constructors alone", thrown || comesOfConstructor());
            Element called = elementOf(t);
            if (method == null) {
                due(4, t, "a field's first object is an own one", isOwn(called));
            } else {
                noteCall(t, called);
            }
            return super.visitNewClass(t, v);
        }

        @Override
        public Void visitNewArray(NewArrayTree t, Void v) {
            due(12, t, "arrays come of constructors alone", comesOfConstructor());
            for (ExpressionTree length : t.getDimensions()) {
                due(7, t, "an array's length is a constant", elementOf(length) != null
                        && elementOf(length).getModifiers().contains(Modifier.STATIC));
            }
            return super.visitNewArray(t, v);
        }

        private boolean comesOfConstructor() {
            return method == null || method.getKind() == ElementKind.CONSTRUCTOR;
        }

        @Override
        public Void visitThrow(ThrowTree t, Void v) {
            boolean plain = t.getExpression() instanceof NewClassTree made
                    && (made.getArguments().isEmpty()
                    || made.getArguments().size() == 1 && made.getArguments().get(0) instanceof LiteralTree);
            due(6, t, "throw new E() or throw new E(\"a written text\")", plain);
            due(6, t, "only look throws", method.getSimpleName().contentEquals("look"));
            String due = plain ? typeOf(((NewClassTree) t.getExpression())).toString() : "";
            boolean told = false;
            for (TypeMirror one : ((ExecutableElement) method).getThrownTypes()) {
                told |= one.toString().equals(due);
            }
            due(6, t, "an exception of the face", told);
            return super.visitThrow(t, v);
        }

        @Override
        public Void visitBinary(BinaryTree t, Void v) {
            boolean text = isText(t.getLeftOperand()) || isText(t.getRightOperand());
            due(10, t, "no joining of texts by +, no == of texts", !text);
            if (t.getKind() == Tree.Kind.DIVIDE || t.getKind() == Tree.Kind.REMAINDER) {
                due(7, t, "the divisor is looked at in the same line", isGuarded(t));
            }
            return super.visitBinary(t, v);
        }

        private boolean isText(ExpressionTree t) {
            TypeMirror type = typeOf(t);
            return type != null && type.toString().equals("java.lang.String");
        }

        /** b == 0 ? .. : a / b, or a != 0 and then / of its amount. */
        private boolean isGuarded(BinaryTree division) {
            String divisor = division.getRightOperand().toString().replace("Math.abs(", "").replace(")", "");
            for (TreePath p = getCurrentPath(); p != null && !(p.getLeaf() instanceof MethodTree); p = p.getParentPath()) {
                String text = p.getLeaf().toString();
                if (text.startsWith("(" + divisor + " == 0 ? ") || text.startsWith(divisor + " == 0 ? ")
                        || text.startsWith(divisor + " != 0 && ")) {
                    return true;
                }
            }
            return false;
        }

        @Override
        public Void visitCompoundAssignment(CompoundAssignmentTree t, Void v) {
            due(7, t, "no /= nor %=", t.getKind() != Tree.Kind.DIVIDE_ASSIGNMENT
                    && t.getKind() != Tree.Kind.REMAINDER_ASSIGNMENT);
            due(10, t, "no joining of texts by +=", !isText(t.getVariable()));
            return super.visitCompoundAssignment(t, v);
        }

        @Override
        public Void visitTypeCast(TypeCastTree t, Void v) {
            due(7, t, "casts are of numbers alone", NUMBERS.contains(typeOf(t.getType()).getKind()));
            return super.visitTypeCast(t, v);
        }

        @Override
        public Void visitLiteral(LiteralTree t, Void v) {
            due(7, t, "null is nowhere", t.getKind() != Tree.Kind.NULL_LITERAL);
            if (t.getValue() instanceof String text) {
                due(4, t, "signs 1 to 127", text.chars().allMatch(c -> c >= 1 && c <= 127));
            }
            due(3, t, "no number with a point", !(t.getValue() instanceof Double || t.getValue() instanceof Float));
            return null;
        }

        @Override
        public Void visitForLoop(ForLoopTree t, Void v) {
            due(9, t, "a for with a counter and a bound", t.getInitializer().size() == 1
                    && t.getCondition() != null && t.getUpdate().size() == 1);
            return super.visitForLoop(t, v);
        }

        @Override
        public Void scan(Tree t, Void v) {
            if (t != null) {
                due(9, t, "no while and no do", t.getKind() != Tree.Kind.WHILE_LOOP && t.getKind() != Tree.Kind.DO_WHILE_LOOP);
                due(6, t, "nothing of try, synchronized, assert, lambdas, references",
                        !(t instanceof TryTree || t instanceof CatchTree || t instanceof SynchronizedTree
                        || t instanceof AssertTree || t instanceof LambdaExpressionTree
                        || t instanceof MemberReferenceTree || t instanceof SwitchExpressionTree
                        || t instanceof EnhancedForLoopTree));
            }
            return super.scan(t, v);
        }

        void end() {
            Set<String> both = new TreeSet<>(publicNames);
            both.retainAll(privateNames);
            due(1, unit, "private methods with the name of a public one: " + both, both.isEmpty());
            for (Element e : calls.keySet()) {
                due(11, unit, "calls behind " + e + " go " + depthOf(e) + " deep", depthOf(e) <= MOST_DEPTH);
            }
        }

        /** How many calls stand open at once from this one on, itself counted. */
        private int depthOf(Element e) {
            due(8, unit, "no recursion, but " + e + " comes back to itself", !open.contains(e));
            if (open.contains(e)) {
                return 0;
            }
            if (!depths.containsKey(e)) {
                open.add(e);
                int deepest = 0;
                for (Element called : calls.getOrDefault(e, Set.of())) {
                    deepest = Math.max(deepest, depthOf(called));
                }
                open.remove(e);
                depths.put(e, deepest + 1);
            }
            return depths.get(e);
        }
    }
}
