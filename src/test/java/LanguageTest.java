import com.sun.source.tree.ArrayAccessTree;
import com.sun.source.tree.AssertTree;
import com.sun.source.tree.AssignmentTree;
import com.sun.source.tree.BinaryTree;
import com.sun.source.tree.BlockTree;
import com.sun.source.tree.ClassTree;
import com.sun.source.tree.CompilationUnitTree;
import com.sun.source.tree.CompoundAssignmentTree;
import com.sun.source.tree.ExpressionTree;
import com.sun.source.tree.ImportTree;
import com.sun.source.tree.InstanceOfTree;
import com.sun.source.tree.LambdaExpressionTree;
import com.sun.source.tree.LiteralTree;
import com.sun.source.tree.MemberReferenceTree;
import com.sun.source.tree.MethodInvocationTree;
import com.sun.source.tree.MethodTree;
import com.sun.source.tree.NewArrayTree;
import com.sun.source.tree.NewClassTree;
import com.sun.source.tree.SynchronizedTree;
import com.sun.source.tree.ThrowTree;
import com.sun.source.tree.Tree;
import com.sun.source.tree.TryTree;
import com.sun.source.tree.TypeCastTree;
import com.sun.source.tree.VariableTree;
import com.sun.source.util.JavacTask;
import com.sun.source.util.SourcePositions;
import com.sun.source.util.TreePath;
import com.sun.source.util.TreePathScanner;
import com.sun.source.util.Trees;
import java.io.File;
import java.util.ArrayList;
import java.util.HashMap;
import java.util.HashSet;
import java.util.List;
import java.util.Map;
import java.util.Set;
import java.util.TreeSet;
import javax.lang.model.element.Element;
import javax.lang.model.element.Modifier;
import javax.tools.JavaCompiler;
import javax.tools.StandardJavaFileManager;
import javax.tools.ToolProvider;

/** The rules of LANGUAGE.md that can be seen in the source; the program uses less than they leave. */
public final class LanguageTest {
    private static final String SOURCE = "src/main/java/Parishbook.java";

    private static final Set<String> LIBRARY = Set.of("java.lang.StringBuilder.append(char)",
            "java.lang.StringBuilder.append(int)", "java.lang.StringBuilder.append(java.lang.String)",
            "java.lang.StringBuilder.deleteCharAt(int)", "java.lang.StringBuilder.length()",
            "java.lang.StringBuilder.setLength(int)", "java.lang.StringBuilder.toString()",
            "java.lang.Math.max(int,int)", "java.lang.Math.min(int,int)", "java.util.Arrays.fill(int[],int)");
    private static final Set<String> THROWN = Set.of("IllegalArgumentException", "IllegalStateException",
            "IndexOutOfBoundsException");
    private static final Set<String> NUMBERS = Set.of("int", "long", "boolean", "char", "java.lang.String");

    private static final Map<String, Set<String>> CALLS = new HashMap<>();
    private static final Set<String> OWN_CLASSES = new HashSet<>();
    private static final List<String> FAULTS = new ArrayList<>();
    private static int looked = 0;

    private LanguageTest() {
    }

    public static void main(String[] args) throws Exception {
        JavaCompiler compiler = ToolProvider.getSystemJavaCompiler();
        try (StandardJavaFileManager files = compiler.getStandardFileManager(null, null, null)) {
            JavacTask task = (JavacTask) compiler.getTask(null, files, null, null, null,
                    files.getJavaFileObjects(new File(SOURCE)));
            CompilationUnitTree unit = task.parse().iterator().next();
            task.analyze();
            Trees trees = Trees.instance(task);
            Check.due("one class in the file", 1, () -> unit.getTypeDecls().size());
            Check.due("no package", true, () -> unit.getPackageName() == null);
            String text = unit.getSourceFile().getCharContent(true).toString();
            Check.due("signs of the source", true, () -> text.chars().allMatch(c -> c == '\n' || (c > 31 && c < 127)));
            new Look(trees, unit).scan(unit, null);
        }
        Check.due("faults", "[]", () -> FAULTS);
        Check.due("enough was looked at", true, () -> looked > 3000);
        Check.due("some twelve classes", true, () -> OWN_CLASSES.size() <= 12);
        int deepest = 0;
        for (String method : CALLS.keySet()) {
            deepest = Math.max(deepest, depth(method, new ArrayList<>()));
        }
        int most = deepest;
        Check.due("calls open at once, " + most + ", are at most eight", true, () -> most > 4 && most <= 8);
        Check.end();
    }

    /** How many calls stand open at most from a method on; one that calls itself counts once. */
    private static int depth(String method, List<String> open) {
        int most = 0;
        open.add(method);
        for (String next : CALLS.get(method)) {
            if (CALLS.containsKey(next) && !open.contains(next)) {
                most = Math.max(most, depth(next, open));
            }
        }
        open.remove(method);
        return most + 1;
    }

    /** Goes through the whole source once. */
    private static final class Look extends TreePathScanner<Void, Void> {
        private final Trees trees;
        private final CompilationUnitTree unit;
        private final SourcePositions positions;
        private String method = "";
        private boolean isMaking = true;

        Look(Trees trees, CompilationUnitTree unit) {
            this.trees = trees;
            this.unit = unit;
            this.positions = trees.getSourcePositions();
        }

        private long line(Tree tree) {
            return unit.getLineMap().getLineNumber(positions.getStartPosition(unit, tree));
        }

        private long lastLine(Tree tree) {
            return unit.getLineMap().getLineNumber(positions.getEndPosition(unit, tree));
        }

        private void fault(boolean isFault, String what, Tree tree) {
            if (isFault) {
                FAULTS.add("line " + line(tree) + ": " + what);
            }
        }

        private String typeOf(Tree tree) {
            return String.valueOf(trees.getTypeMirror(new TreePath(getCurrentPath(), tree)));
        }

        private static boolean isOwn(Element element) {
            Element at = element;
            while (at.getEnclosingElement() != null && !at.getEnclosingElement().toString().isEmpty()
                    && !at.getEnclosingElement().toString().equals("unnamed package")) {
                at = at.getEnclosingElement();
            }
            return at.toString().startsWith("Parishbook");
        }

        @Override
        public Void scan(Tree tree, Void none) {
            looked += tree == null ? 0 : 1;
            return super.scan(tree, none);
        }

        @Override
        public Void visitImport(ImportTree tree, Void none) {
            fault(!tree.getQualifiedIdentifier().toString().equals("java.util.Arrays") || tree.isStatic(), "import", tree);
            return null;
        }

        @Override
        public Void visitClass(ClassTree tree, Void none) {
            OWN_CLASSES.add(tree.getSimpleName().toString());
            fault(tree.getKind() != Tree.Kind.CLASS, "no plain class", tree);
            boolean isInside = !tree.getSimpleName().contentEquals("Parishbook");
            fault(isInside && !tree.getModifiers().getFlags().contains(Modifier.STATIC), "inner class", tree);
            int fields = 0;
            for (Tree member : tree.getMembers()) {
                fault(member instanceof BlockTree, "a block of a class", member);
                fields += member instanceof VariableTree
                        && !((VariableTree) member).getModifiers().getFlags().contains(Modifier.STATIC) ? 1 : 0;
            }
            fault(fields > 20, "more than twenty fields", tree);
            return super.visitClass(tree, none);
        }

        @Override
        public Void visitMethod(MethodTree tree, Void none) {
            method = String.valueOf(trees.getElement(getCurrentPath()).getEnclosingElement()) + "."
                    + trees.getElement(getCurrentPath());
            CALLS.put(method, new TreeSet<>());
            isMaking = tree.getName().contentEquals("<init>");
            fault(lastLine(tree) - line(tree) >= 60, "a long method", tree);
            fault(tree.getParameters().size() > 7, "more than seven parameters", tree);
            super.visitMethod(tree, none);
            isMaking = true;
            return null;
        }

        @Override
        public Void visitVariable(VariableTree tree, Void none) {
            Set<Modifier> flags = tree.getModifiers().getFlags();
            String type = String.valueOf(trees.getTypeMirror(getCurrentPath()));
            String one = type.endsWith("[]") ? type.substring(0, type.length() - 2) : type;
            boolean isOwn = one.startsWith("Parishbook.");
            fault(!isOwn && !NUMBERS.contains(one) && !type.equals("java.lang.StringBuilder"), "type " + type, tree);
            if (flags.contains(Modifier.STATIC)) {
                fault(!flags.contains(Modifier.FINAL), "static, not final", tree);
                fault(isOwn || tree.getInitializer() == null, "no constant", tree);
                boolean isRow = tree.getInitializer() instanceof NewArrayTree
                        && ((NewArrayTree) tree.getInitializer()).getInitializers() != null;
                fault(type.endsWith("[]") && !isRow, "a row that is not written out", tree);
            }
            return super.visitVariable(tree, none);
        }

        @Override
        public Void visitMethodInvocation(MethodInvocationTree tree, Void none) {
            Element called = trees.getElement(getCurrentPath());
            String owner = String.valueOf(called.getEnclosingElement()).replace("AbstractStringBuilder", "StringBuilder");
            String name = owner + "." + called;
            if (isOwn(called)) {
                if (CALLS.containsKey(method)) {
                    CALLS.get(method).add(name);
                }
            } else {
                fault(!LIBRARY.contains(name) && !called.toString().equals("Object()"), "call of " + name, tree);
            }
            return super.visitMethodInvocation(tree, none);
        }

        @Override
        public Void visitThrow(ThrowTree tree, Void none) {
            boolean isNew = tree.getExpression() instanceof NewClassTree;
            fault(!isNew, "a throw of no new one", tree);
            fault(isMaking, "a throw in a constructor", tree);
            if (isNew) {
                NewClassTree made = (NewClassTree) tree.getExpression();
                fault(!THROWN.contains(made.getIdentifier().toString()), "throws " + made.getIdentifier(), tree);
                fault(made.getArguments().stream().anyMatch(a -> !(a instanceof LiteralTree)), "a text not written", tree);
            }
            return super.visitThrow(tree, none);
        }

        /** All is made in constructors, by what fields begin with, or to be thrown. */
        @Override
        public Void visitNewClass(NewClassTree tree, Void none) {
            boolean isThrown = getCurrentPath().getParentPath().getLeaf() instanceof ThrowTree;
            fault(!isMaking && !isThrown, "made in a call", tree);
            fault(tree.getClassBody() != null, "anonymous class", tree);
            String type = typeOf(tree.getIdentifier());
            fault(!isThrown && !type.startsWith("Parishbook.") && !type.equals("java.lang.StringBuilder"), "made: " + type, tree);
            return super.visitNewClass(tree, none);
        }

        @Override
        public Void visitNewArray(NewArrayTree tree, Void none) {
            fault(!isMaking, "a row made in a call", tree);
            return super.visitNewArray(tree, none);
        }

        @Override
        public Void visitAssignment(AssignmentTree tree, Void none) {
            if (tree.getVariable() instanceof ArrayAccessTree) {
                ExpressionTree row = ((ArrayAccessTree) tree.getVariable()).getExpression();
                Element element = trees.getElement(new TreePath(getCurrentPath(), row));
                fault(element != null && element.getModifiers().contains(Modifier.STATIC), "a constant row is changed", tree);
            }
            return super.visitAssignment(tree, none);
        }

        @Override
        public Void visitBinary(BinaryTree tree, Void none) {
            String one = typeOf(tree.getLeftOperand());
            String two = typeOf(tree.getRightOperand());
            fault(one.startsWith("java.lang.") || two.startsWith("java.lang."), "an operator on objects", tree);
            return super.visitBinary(tree, none);
        }

        @Override
        public Void visitCompoundAssignment(CompoundAssignmentTree tree, Void none) {
            fault(typeOf(tree.getVariable()).startsWith("java.lang."), "a text that grows by +", tree);
            return super.visitCompoundAssignment(tree, none);
        }

        @Override
        public Void visitLiteral(LiteralTree tree, Void none) {
            Object value = tree.getValue();
            fault(value instanceof Double || value instanceof Float, "no whole number", tree);
            return super.visitLiteral(tree, none);
        }

        @Override
        public Void visitTypeCast(TypeCastTree tree, Void none) {
            fault(!tree.getType().toString().equals("char"), "cast to " + tree.getType(), tree);
            return super.visitTypeCast(tree, none);
        }

        @Override
        public Void visitLambdaExpression(LambdaExpressionTree tree, Void none) {
            fault(true, "lambda", tree);
            return null;
        }

        @Override
        public Void visitMemberReference(MemberReferenceTree tree, Void none) {
            fault(true, "method reference", tree);
            return null;
        }

        @Override
        public Void visitTry(TryTree tree, Void none) {
            fault(true, "try", tree);
            return null;
        }

        @Override
        public Void visitSynchronized(SynchronizedTree tree, Void none) {
            fault(true, "synchronized", tree);
            return null;
        }

        @Override
        public Void visitAssert(AssertTree tree, Void none) {
            fault(true, "assert", tree);
            return null;
        }

        @Override
        public Void visitInstanceOf(InstanceOfTree tree, Void none) {
            fault(true, "instanceof", tree);
            return null;
        }
    }
}
