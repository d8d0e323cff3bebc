import com.sun.source.tree.ArrayAccessTree;
import com.sun.source.tree.AssertTree;
import com.sun.source.tree.BinaryTree;
import com.sun.source.tree.ClassTree;
import com.sun.source.tree.CompilationUnitTree;
import com.sun.source.tree.CompoundAssignmentTree;
import com.sun.source.tree.IdentifierTree;
import com.sun.source.tree.LambdaExpressionTree;
import com.sun.source.tree.MemberReferenceTree;
import com.sun.source.tree.MemberSelectTree;
import com.sun.source.tree.MethodTree;
import com.sun.source.tree.NewClassTree;
import com.sun.source.tree.SynchronizedTree;
import com.sun.source.tree.ThrowTree;
import com.sun.source.tree.Tree;
import com.sun.source.tree.TryTree;
import com.sun.source.tree.VariableTree;
import com.sun.source.util.JavacTask;
import com.sun.source.util.TreePathScanner;
import com.sun.source.util.Trees;
import java.io.IOException;
import java.nio.file.Files;
import java.nio.file.Path;
import java.util.ArrayList;
import java.util.List;
import java.util.Map;
import java.util.Set;
import java.util.TreeMap;
import java.util.TreeSet;
import javax.lang.model.element.Element;
import javax.lang.model.element.ElementKind;
import javax.lang.model.element.Modifier;
import javax.lang.model.type.TypeKind;
import javax.tools.JavaCompiler;
import javax.tools.StandardJavaFileManager;
import javax.tools.ToolProvider;

/** The rules of LANGUAGE.md that can be seen in the source, as the compiler understands it. */
public final class RulesTest {
    private static final Path SOURCE = Path.of("src/main/java/PaneStreet.java");
    private static final int MOST_CLASSES = 12;
    private static final int MOST_FIELDS = 20;
    private static final int MOST_PARAMETERS = 7;
    private static final int MOST_LINES = 60;
    private static final int DEEPEST_CALLS = 8;

    /** What rule 4 lists, as far as the class has need of it. */
    private static final Set<String> LIBRARY = Set.of("String.length", "String.charAt", "Integer.bitCount", "Math.min",
        "Math.max", "System.arraycopy", "Arrays.fill", "Array.length", "Object.<init>", "Enum.<init>");
    private static final Set<String> TYPES = Set.of("String", "Integer", "Math", "System", "Arrays");

    /** The exceptions of rule 6. */
    private static final Set<String> EXCEPTIONS = Set.of("IllegalStateException", "IllegalArgumentException",
        "IndexOutOfBoundsException", "ArithmeticException", "UnsupportedOperationException", "NoSuchElementException",
        "RuntimeException");

    /** The methods in which an index is tested ahead of its use; no other one looks into an array. */
    private static final Set<String> INDEXING = Set.of("Row.get", "Row.set", "Row.add", "Text.scan", "Text.term",
        "History.<init>", "History.slotAt");

    private final List<String> broken = new ArrayList<>();
    private final Map<String, Set<String>> calls = new TreeMap<>();
    private final Set<String> recursive = new TreeSet<>();
    private final Set<String> face = new TreeSet<>();
    private final List<String> classes = new ArrayList<>();
    private List<String> deepest = List.of();

    private RulesTest() {
    }

    public static void main(String[] args) throws IOException {
        RulesTest test = new RulesTest();
        test.readSource();
        Check.begin("the rules of LANGUAGE.md");
        Check.due("what breaks them", test.broken, List.of());
        Check.due("rule 11: some twelve classes", test.classes.size() <= MOST_CLASSES, true);
        for (String method : test.face) {
            test.goDown(method, new ArrayList<>());
        }
        Check.due("rule 11: calls go eight deep at most, but for recursion: " + test.deepest,
            test.deepest.size() <= DEEPEST_CALLS, true);
        Check.due("rule 8: calls that lead back to themselves", test.recursive,
            Set.of("LawText.readAtom", "LawText.readCondition"));
        Check.due("rule 3: signs 1 to 127", Files.readString(SOURCE).chars().allMatch(c -> c > 0 && c < 128), true);
        Check.end();
    }

    private void readSource() throws IOException {
        JavaCompiler compiler = ToolProvider.getSystemJavaCompiler();
        try (StandardJavaFileManager files = compiler.getStandardFileManager(null, null, null)) {
            JavacTask task = (JavacTask) compiler.getTask(null, files, null, List.of("-proc:none"), null,
                files.getJavaFileObjects(SOURCE));
            CompilationUnitTree unit = task.parse().iterator().next();
            task.analyze();
            if (unit.getPackageName() != null) {
                broken.add("1: a package line");
            }
            new Reader(Trees.instance(task), unit).scan(unit, null);
        }
    }

    /** Goes down all calls, keeping the longest row of these; a call of one that is open already is recursion. */
    private void goDown(String method, List<String> open) {
        if (open.contains(method)) {
            recursive.addAll(open.subList(open.indexOf(method), open.size()));
            return;
        }
        open.add(method);
        if (open.size() > deepest.size()) {
            deepest = List.copyOf(open);
        }
        for (String next : calls.getOrDefault(method, Set.of())) {
            goDown(next, open);
        }
        open.remove(open.size() - 1);
    }

    /** Reads the source; what goes down with it is the method in which it is. */
    private final class Reader extends TreePathScanner<Void, String> {
        private final Trees trees;
        private final CompilationUnitTree unit;

        Reader(Trees trees, CompilationUnitTree unit) {
            this.trees = trees;
            this.unit = unit;
        }

        private void tell(String rule, Tree by) {
            broken.add(rule + ", line " + lineOf(trees.getSourcePositions().getStartPosition(unit, by)) + ": " + by);
        }

        private long lineOf(long position) {
            return unit.getLineMap().getLineNumber(position);
        }

        private String nameOf(Element of) {
            return of.getEnclosingElement().getSimpleName() + "." + of.getSimpleName();
        }

        /** A name of the library, or of a method of the source, that is used. */
        private void use(Tree by, String within) {
            Element of = trees.getElement(getCurrentPath());
            if (of == null) {
                return;
            }
            boolean isCall = of.getKind() == ElementKind.METHOD || of.getKind() == ElementKind.CONSTRUCTOR;
            boolean isOurs = (of + "").startsWith("PaneStreet") || (of.getEnclosingElement() + "").startsWith("PaneStreet");
            if (isOurs) {
                if (isCall && within != null) {
                    calls.get(within).add(nameOf(of));
                }
            } else if (isCall || of.getKind().isField()) {
                boolean isThrown = EXCEPTIONS.contains(of.getEnclosingElement().getSimpleName() + "");
                if (!isThrown && !LIBRARY.contains(nameOf(of))) {
                    tell("4: a library that is not listed", by);
                }
            } else if (of.getKind().isClass() && !TYPES.contains(of.getSimpleName() + "")
                    && !EXCEPTIONS.contains(of.getSimpleName() + "")) {
                tell("3: a type that is not listed", by);
            }
        }

        @Override
        public Void visitIdentifier(IdentifierTree tree, String within) {
            use(tree, within);
            return super.visitIdentifier(tree, within);
        }

        @Override
        public Void visitMemberSelect(MemberSelectTree tree, String within) {
            use(tree, within);
            return super.visitMemberSelect(tree, within);
        }

        @Override
        public Void visitNewClass(NewClassTree tree, String within) {
            use(tree, within);
            return super.visitNewClass(tree, within);
        }

        @Override
        public Void visitClass(ClassTree tree, String within) {
            classes.add(tree.getSimpleName() + "");
            int fields = 0;
            for (Tree member : tree.getMembers()) {
                if (member instanceof VariableTree field) {
                    if (!field.getModifiers().getFlags().contains(Modifier.STATIC)) {
                        fields++;
                    } else if (!field.getModifiers().getFlags().contains(Modifier.FINAL)) {
                        tell("5: a static field that is not final", field);
                    }
                } else if (member.getKind() == Tree.Kind.BLOCK) {
                    tell("5: an initialiser block", member);
                }
            }
            if (fields > MOST_FIELDS) {
                tell("11: more than twenty fields", tree);
            }
            if (within != null) {
                tell("2: a local class", tree);
            }
            return super.visitClass(tree, within);
        }

        @Override
        public Void visitMethod(MethodTree tree, String within) {
            Element method = trees.getElement(getCurrentPath());
            String name = nameOf(method);
            if (calls.put(name, new TreeSet<>()) != null) {
                tell("two methods of one name, which this test can not tell apart", tree);
            }
            if (name.startsWith("PaneStreet.") && method.getModifiers().contains(Modifier.PUBLIC)) {
                face.add(name);
            }
            long first = lineOf(trees.getSourcePositions().getStartPosition(unit, tree));
            long last = lineOf(trees.getSourcePositions().getEndPosition(unit, tree));
            if (last - first + 1 > MOST_LINES) {
                tell("11: a long method", tree);
            }
            if (tree.getParameters().size() > MOST_PARAMETERS) {
                tell("11: more than seven parameters", tree);
            }
            return super.visitMethod(tree, name);
        }

        @Override
        public Void visitArrayAccess(ArrayAccessTree tree, String within) {
            if (!INDEXING.contains(within)) {
                tell("7: an index outside the methods that test theirs", tree);
            }
            return super.visitArrayAccess(tree, within);
        }

        @Override
        public Void visitThrow(ThrowTree tree, String within) {
            if (!(tree.getExpression() instanceof NewClassTree) || within.endsWith("<init>")) {
                tell("6: throw new E(..), and not in a constructor", tree);
            }
            return super.visitThrow(tree, within);
        }

        @Override
        public Void visitTry(TryTree tree, String within) {
            tell("6: try, which the class does without: nothing that the machine throws may be caught", tree);
            return super.visitTry(tree, within);
        }

        @Override
        public Void visitSynchronized(SynchronizedTree tree, String within) {
            tell("6: synchronized", tree);
            return super.visitSynchronized(tree, within);
        }

        @Override
        public Void visitAssert(AssertTree tree, String within) {
            tell("6: assert", tree);
            return super.visitAssert(tree, within);
        }

        @Override
        public Void visitLambdaExpression(LambdaExpressionTree tree, String within) {
            tell("2: a lambda", tree);
            return super.visitLambdaExpression(tree, within);
        }

        @Override
        public Void visitMemberReference(MemberReferenceTree tree, String within) {
            tell("2: a method reference", tree);
            return super.visitMemberReference(tree, within);
        }

        @Override
        public Void visitBinary(BinaryTree tree, String within) {
            boolean isNumber = trees.getTypeMirror(getCurrentPath()).getKind().isPrimitive();
            if (!isNumber) {
                tell("10: texts joined by +", tree);
            }
            if (tree.getKind() == Tree.Kind.DIVIDE || tree.getKind() == Tree.Kind.REMAINDER) {
                divides(tree, tree.getRightOperand());
            }
            return super.visitBinary(tree, within);
        }

        @Override
        public Void visitCompoundAssignment(CompoundAssignmentTree tree, String within) {
            boolean isNumber = trees.getTypeMirror(getCurrentPath()).getKind() != TypeKind.DECLARED;
            if (!isNumber) {
                tell("10: texts joined by +=", tree);
            }
            if (tree.getKind() == Tree.Kind.DIVIDE_ASSIGNMENT || tree.getKind() == Tree.Kind.REMAINDER_ASSIGNMENT) {
                divides(tree, tree.getExpression());
            }
            return super.visitCompoundAssignment(tree, within);
        }

        /** A divisor is a number or a constant, or one of those that are tested, or above 0, where they stand. */
        private void divides(Tree by, Tree divisor) {
            boolean isTested = (divisor + "").equals("all") || (divisor + "").equals("(i + 1)");
            if (!isTested && !(divisor + "").matches("[1-9]\\d*|[A-Z_]+")) {
                tell("7: a divisor that is not known", by);
            }
        }
    }
}
