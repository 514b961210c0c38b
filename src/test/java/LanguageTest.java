import com.sun.source.tree.*;
import com.sun.source.util.JavacTask;
import com.sun.source.util.TreePath;
import com.sun.source.util.TreePathScanner;
import com.sun.source.util.Trees;
import java.io.File;
import java.util.*;
import javax.lang.model.element.*;
import javax.tools.JavaCompiler;
import javax.tools.StandardJavaFileManager;
import javax.tools.ToolProvider;

/** Reads the class's source and tells what breaks a rule of ../shared/LANGUAGE.md that can be seen in it. */
public final class LanguageTest {
    private static final String FILE = "src/main/java/CaptionTallies.java";
    private static final int MOST_LINES = 60;
    private static final int MOST_PARAMETERS = 7;
    private static final int MOST_FIELDS = 20;
    private static final int MOST_CLASSES = 12;
    private static final int MOST_DEEP = 8;

    private static final Set<String> FACE = new TreeSet<>(List.of(
            "UNKNOWN", "BAD_VALUE", "FULL", "NOT_POSSIBLE", "NONE", "<init>()",
            "submit(int)", "withdraw(int)", "join(int,int)", "part(int)", "vote(int,int,int,int)",
            "score(int,int,int)", "set(int,int)", "prize(int,int)", "type(char)", "clearText()",
            "undo()", "keep()", "restore()", "caption(int,int)", "letter(int,int)", "group(int,int)",
            "judged(int,int,int)", "ballot(int,int,boolean)", "ranked(int)", "round(int,int)",
            "distance(int,int)", "near(int,int)", "author(int,int)", "count(int)"));

    private static final Set<Tree.Kind> FORBIDDEN = EnumSet.of(
            Tree.Kind.THROW, Tree.Kind.TRY, Tree.Kind.CATCH, Tree.Kind.SYNCHRONIZED, Tree.Kind.ASSERT,
            Tree.Kind.LAMBDA_EXPRESSION, Tree.Kind.MEMBER_REFERENCE);

    private static final Set<String> LIBRARY = Set.of(
            "java.util.Arrays.fill", "java.util.Arrays.copyOf", "java.util.Arrays.copyOfRange",
            "java.lang.System.arraycopy", "java.lang.Math.min", "java.lang.Math.max", "java.lang.Math.abs",
            "java.lang.Object.<init>");

    private final List<String> wrong = new ArrayList<>();
    private final Set<String> face = new TreeSet<>();
    private final Map<Element, Set<Element>> calls = new LinkedHashMap<>();
    private int classes = 0;

    public static void main(String[] args) throws Exception {
        LanguageTest test = new LanguageTest();
        test.check();
        for (String line : test.wrong) {
            System.out.println(line);
        }
        System.out.println(test.wrong.isEmpty() ? "no rule is seen broken" : test.wrong.size() + " faults");
        if (!test.wrong.isEmpty()) {
            System.exit(1);
        }
    }

    private void check() throws Exception {
        JavaCompiler compiler = ToolProvider.getSystemJavaCompiler();
        StandardJavaFileManager files = compiler.getStandardFileManager(null, null, null);
        JavacTask task = (JavacTask) compiler.getTask(null, files, null, List.of("-proc:none"), null,
                files.getJavaFileObjects(new File(FILE)));
        CompilationUnitTree unit = task.parse().iterator().next();
        task.analyze();
        if (unit.getPackageName() != null) {
            wrong.add("rule 1: a package line");
        }
        new Reader(Trees.instance(task), unit).scan(new TreePath(unit), null);
        if (!face.equals(FACE)) {
            wrong.add("rule 1: the face is " + face);
        }
        if (classes > MOST_CLASSES) {
            wrong.add("rule 11: " + classes + " classes");
        }
        for (Element method : calls.keySet()) {
            checkDepth(method, new ArrayDeque<>());
        }
    }

    private int checkDepth(Element method, Deque<Element> open) {
        if (open.contains(method)) {
            wrong.add("recursion in " + method + ", which this test does not know how to bound");
            return 0;
        }
        open.push(method);
        if (open.size() == MOST_DEEP + 1) {
            wrong.add("rule 11: calls too deep: " + open);
        }
        for (Element called : calls.getOrDefault(method, Set.of())) {
            checkDepth(called, open);
        }
        open.pop();
        return 0;
    }

    private final class Reader extends TreePathScanner<Void, Void> {
        private final Trees trees;
        private final CompilationUnitTree unit;
        private Element method;

        Reader(Trees trees, CompilationUnitTree unit) {
            this.trees = trees;
            this.unit = unit;
        }

        private void fault(Tree tree, String text) {
            long start = trees.getSourcePositions().getStartPosition(unit, tree);
            wrong.add("line " + unit.getLineMap().getLineNumber(start) + ": " + text);
        }

        private long linesOf(Tree tree) {
            long start = trees.getSourcePositions().getStartPosition(unit, tree);
            long end = trees.getSourcePositions().getEndPosition(unit, tree);
            return unit.getLineMap().getLineNumber(end) - unit.getLineMap().getLineNumber(start) + 1;
        }

        private boolean isOutermost() {
            return getCurrentPath().getParentPath().getLeaf() instanceof ClassTree
                    && getCurrentPath().getParentPath().getParentPath().getLeaf() == unit;
        }

        @Override
        public Void scan(Tree tree, Void nothing) {
            if (tree != null && FORBIDDEN.contains(tree.getKind())) {
                fault(tree, "rule 2 or 6: " + tree.getKind());
            }
            return super.scan(tree, nothing);
        }

        @Override
        public Void visitClass(ClassTree tree, Void nothing) {
            classes++;
            Set<Modifier> flags = tree.getModifiers().getFlags();
            boolean outermost = getCurrentPath().getParentPath().getLeaf() == unit;
            if (!outermost && (!flags.contains(Modifier.STATIC) || flags.contains(Modifier.PUBLIC)
                    || flags.contains(Modifier.PROTECTED))) {
                fault(tree, "rule 1 or 2: class " + tree.getSimpleName());
            }
            int fields = 0;
            for (Tree member : tree.getMembers()) {
                if (member instanceof VariableTree field
                        && !field.getModifiers().getFlags().contains(Modifier.STATIC)) {
                    fields++;
                }
                if (member instanceof BlockTree) {
                    fault(member, "rule 5: an initialiser block");
                }
            }
            if (fields > MOST_FIELDS) {
                fault(tree, "rule 11: " + fields + " fields");
            }
            return super.visitClass(tree, nothing);
        }

        @Override
        public Void visitVariable(VariableTree tree, Void nothing) {
            if (getCurrentPath().getParentPath().getLeaf() instanceof ClassTree) {
                Set<Modifier> flags = tree.getModifiers().getFlags();
                if (flags.contains(Modifier.STATIC) && !flags.contains(Modifier.FINAL)) {
                    fault(tree, "rule 5: " + tree.getName());
                }
                if (isOutermost() && !flags.contains(Modifier.PRIVATE)) {
                    face.add(tree.getName().toString());
                }
            }
            return super.visitVariable(tree, nothing);
        }

        @Override
        public Void visitMethod(MethodTree tree, Void nothing) {
            Element before = method;
            method = trees.getElement(getCurrentPath());
            calls.putIfAbsent(method, new LinkedHashSet<>());
            StringJoiner signature = new StringJoiner(",", tree.getName() + "(", ")");
            tree.getParameters().forEach(parameter -> signature.add(parameter.getType().toString()));
            boolean isPrivate = tree.getModifiers().getFlags().contains(Modifier.PRIVATE);
            if (isOutermost() && !isPrivate) {
                face.add(signature.toString());
            } else if (FACE.stream().anyMatch(name -> name.startsWith(tree.getName() + "("))
                    && !tree.getName().contentEquals("<init>")) {
                fault(tree, "rule 1: " + tree.getName() + " bears a name of the face");
            }
            if (Set.of("equals", "hashCode", "toString").contains(tree.getName().toString())) {
                fault(tree, "rule 6: " + tree.getName());
            }
            if (tree.getParameters().size() > MOST_PARAMETERS) {
                fault(tree, "rule 11: parameters of " + tree.getName());
            }
            if (linesOf(tree) > MOST_LINES) {
                fault(tree, "rule 11: " + linesOf(tree) + " lines in " + tree.getName());
            }
            super.visitMethod(tree, nothing);
            method = before;
            return null;
        }

        private void called(Tree tree, Element element) {
            if (element == null || method == null) {
                return;
            }
            String owner = element.getEnclosingElement().toString();
            String name = owner + "." + element.getSimpleName();
            if (!owner.startsWith("CaptionTallies")) {
                if (!LIBRARY.contains(name)) {
                    fault(tree, "rule 4: " + name);
                }
            } else {
                calls.get(method).add(element);
            }
        }

        @Override
        public Void visitMethodInvocation(MethodInvocationTree tree, Void nothing) {
            called(tree, trees.getElement(getCurrentPath()));
            return super.visitMethodInvocation(tree, nothing);
        }

        @Override
        public Void visitNewClass(NewClassTree tree, Void nothing) {
            checkMaking(tree);
            if (tree.getClassBody() != null) {
                fault(tree, "rule 2: an anonymous class");
            }
            called(tree, trees.getElement(getCurrentPath()));
            return super.visitNewClass(tree, nothing);
        }

        @Override
        public Void visitNewArray(NewArrayTree tree, Void nothing) {
            checkMaking(tree);
            return super.visitNewArray(tree, nothing);
        }

        /** Stricter than rule 12: all calls of a run live in one room, so only constructors make anything. */
        private void checkMaking(Tree tree) {
            if (method == null || method.getKind() != ElementKind.CONSTRUCTOR) {
                fault(tree, "something is made outside a constructor");
            }
        }

        @Override
        public Void visitBinary(BinaryTree tree, Void nothing) {
            boolean divides = tree.getKind() == Tree.Kind.DIVIDE || tree.getKind() == Tree.Kind.REMAINDER;
            String divisor = tree.getRightOperand().toString();
            if (divides && !Set.of("CAPTIONS", "sharers").contains(divisor)) {
                fault(tree, "rule 7: a divisor that this test does not know: " + divisor);
            }
            return super.visitBinary(tree, nothing);
        }

        @Override
        public Void visitTypeCast(TypeCastTree tree, Void nothing) {
            fault(tree, "rule 6: a cast that this test does not know");
            return super.visitTypeCast(tree, nothing);
        }
    }
}
