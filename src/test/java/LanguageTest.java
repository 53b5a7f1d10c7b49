import com.sun.source.tree.AssertTree;
import com.sun.source.tree.BinaryTree;
import com.sun.source.tree.BlockTree;
import com.sun.source.tree.ClassTree;
import com.sun.source.tree.CompilationUnitTree;
import com.sun.source.tree.CompoundAssignmentTree;
import com.sun.source.tree.ImportTree;
import com.sun.source.tree.LambdaExpressionTree;
import com.sun.source.tree.MemberReferenceTree;
import com.sun.source.tree.MethodInvocationTree;
import com.sun.source.tree.MethodTree;
import com.sun.source.tree.NewArrayTree;
import com.sun.source.tree.NewClassTree;
import com.sun.source.tree.SynchronizedTree;
import com.sun.source.tree.ThrowTree;
import com.sun.source.tree.Tree;
import com.sun.source.tree.TryTree;
import com.sun.source.tree.VariableTree;
import com.sun.source.util.JavacTask;
import com.sun.source.util.SourcePositions;
import com.sun.source.util.TreePath;
import com.sun.source.util.TreePathScanner;
import com.sun.source.util.Trees;
import java.io.IOException;
import java.nio.file.Path;
import java.util.LinkedHashMap;
import java.util.LinkedHashSet;
import java.util.List;
import java.util.Map;
import java.util.Set;
import javax.lang.model.element.Element;
import javax.lang.model.element.Modifier;
import javax.lang.model.type.TypeMirror;
import javax.tools.JavaCompiler;
import javax.tools.StandardJavaFileManager;
import javax.tools.ToolProvider;

/** The rules of LANGUAGE.md that can be counted or looked up in the source, each by its number; run at the root. */
public final class LanguageTest {
    private static final Path SOURCE = Path.of("src/main/java/CellHeap.java");
    private static final int METHOD_LINES = 60;
    private static final int PARAMETERS = 7;
    private static final int DEPTH = 8;
    private static final int CLASSES = 12;
    private static final int FIELDS = 20;
    private static final Set<String> LIBRARY = Set.of("System.arraycopy", "Arrays.fill", "Math.max",
            "Integer.numberOfLeadingZeros", "Object.<init>", "IllegalArgumentException.<init>",
            "IllegalStateException.<init>");

    public static void main(String[] args) throws IOException {
        JavaCompiler compiler = ToolProvider.getSystemJavaCompiler();
        try (StandardJavaFileManager files = compiler.getStandardFileManager(null, null, null)) {
            JavacTask task = (JavacTask) compiler.getTask(null, files, null, List.of("-proc:none"), null,
                    files.getJavaFileObjects(SOURCE));
            CompilationUnitTree unit = task.parse().iterator().next();
            task.analyze();
            Look look = new Look(Trees.instance(task), unit);
            look.scan(new TreePath(unit), null);
            look.finish();
        }
        Checks.finish();
    }

    /** Goes through the whole source; what a rule forbids is a wrong check, what it counts is counted. */
    private static final class Look extends TreePathScanner<Void, Void> {
        private final Trees trees;
        private final SourcePositions places;
        private final CompilationUnitTree unit;
        private final Map<Element, Set<Element>> calls = new LinkedHashMap<>();
        private int classes;
        private MethodTree method;
        private int throwing;

        Look(Trees trees, CompilationUnitTree unit) {
            this.trees = trees;
            this.places = trees.getSourcePositions();
            this.unit = unit;
        }

        void finish() {
            Checks.equal("1 package line", 1, unit.getPackageName() == null ? 1 : 0);
            Checks.equal("1 one class beside which there is none", 1, unit.getTypeDecls().size());
            within("11 classes", classes, CLASSES);
            for (Element each : calls.keySet()) {
                within("11 calls that stand open behind " + each, depthOf(each, new LinkedHashSet<>()), DEPTH);
            }
        }

        private static void within(String what, int count, int most) {
            Checks.equal(what + ": " + count + " of " + most, 1, count <= most ? 1 : 0);
        }

        private void forbidden(String rule, Tree tree) {
            long line = unit.getLineMap().getLineNumber(places.getStartPosition(unit, tree));
            Checks.equal(rule + ", line " + line, "not there", "there");
        }

        private int depthOf(Element caller, Set<Element> open) {
            if (!open.add(caller)) {
                Checks.equal("8 " + caller, "no recursion", "calls itself");
                return 0;
            }
            int deepest = 0;
            for (Element called : calls.getOrDefault(caller, Set.of())) {
                deepest = Math.max(deepest, depthOf(called, open));
            }
            open.remove(caller);
            return 1 + deepest;
        }

        private Element elementHere() {
            return trees.getElement(getCurrentPath());
        }

        private boolean isText(TypeMirror type) {
            return type != null && type.toString().equals("java.lang.String");
        }

        private void checkJoining(Tree tree) {
            if (isText(trees.getTypeMirror(getCurrentPath()))) {
                forbidden("10 texts joined by +", tree);
            }
        }

        /** A call or a new object: of the library only what is listed; of the file's own it is kept who calls whom. */
        private void noteCall(Element called) {
            if (called == null) {
                return;
            }
            String owner = called.getEnclosingElement().toString();
            if (owner.startsWith("CellHeap")) {
                calls.computeIfAbsent(callerHere(), each -> new LinkedHashSet<>()).add(called);
            } else {
                String name = owner.substring(owner.lastIndexOf('.') + 1) + "." + called.getSimpleName();
                Checks.equal("4 the library's " + name, 1, LIBRARY.contains(name) ? 1 : 0);
            }
        }

        private Element callerHere() {
            TreePath path = getCurrentPath();
            while (path.getParentPath() != null && path.getLeaf().getKind() != Tree.Kind.METHOD
                    && path.getLeaf().getKind() != Tree.Kind.CLASS) {
                path = path.getParentPath();
            }
            return trees.getElement(path);
        }

        private void checkRoom(Tree made) {
            boolean inCall = method != null && method.getReturnType() != null;
            if (inCall && throwing == 0) {
                forbidden("room: a call makes something", made);
            }
        }

        @Override
        public Void visitImport(ImportTree tree, Void nothing) {
            Checks.equal("4 import", "java.util.Arrays", tree.getQualifiedIdentifier().toString());
            return super.visitImport(tree, nothing);
        }

        @Override
        public Void visitClass(ClassTree tree, Void nothing) {
            classes++;
            int fields = 0;
            for (Tree member : tree.getMembers()) {
                if (member instanceof VariableTree) {
                    fields += isConstant((VariableTree) member) ? 0 : 1;
                } else if (member instanceof BlockTree) {
                    forbidden("5 an initialiser block", member);
                }
            }
            within("11 fields of " + tree.getSimpleName(), fields, FIELDS);
            return super.visitClass(tree, nothing);
        }

        private boolean isConstant(VariableTree field) {
            Set<Modifier> marks = field.getModifiers().getFlags();
            boolean unchanging = marks.contains(Modifier.STATIC);
            if (unchanging && !marks.contains(Modifier.FINAL)) {
                forbidden("5 a static field that is not final", field);
            }
            return unchanging;
        }

        @Override
        public Void visitMethod(MethodTree tree, Void nothing) {
            method = tree;
            within("11 parameters of " + tree.getName(), tree.getParameters().size(), PARAMETERS);
            long first = unit.getLineMap().getLineNumber(places.getStartPosition(unit, tree));
            long last = unit.getLineMap().getLineNumber(places.getEndPosition(unit, tree));
            within("11 lines of " + tree.getName(), (int) (last - first + 1), METHOD_LINES);
            super.visitMethod(tree, nothing);
            method = null;
            return null;
        }

        @Override
        public Void visitMethodInvocation(MethodInvocationTree tree, Void nothing) {
            noteCall(elementHere());
            return super.visitMethodInvocation(tree, nothing);
        }

        @Override
        public Void visitNewClass(NewClassTree tree, Void nothing) {
            noteCall(elementHere());
            checkRoom(tree);
            return super.visitNewClass(tree, nothing);
        }

        @Override
        public Void visitNewArray(NewArrayTree tree, Void nothing) {
            checkRoom(tree);
            return super.visitNewArray(tree, nothing);
        }

        @Override
        public Void visitThrow(ThrowTree tree, Void nothing) {
            if (method.getReturnType() == null) {
                forbidden("6 a throw in a constructor", tree);
            }
            throwing++;
            super.visitThrow(tree, nothing);
            throwing--;
            return null;
        }

        @Override
        public Void visitTry(TryTree tree, Void nothing) {
            if (tree.getFinallyBlock() != null || !tree.getResources().isEmpty()) {
                forbidden("6 finally, or resources", tree);
            }
            return super.visitTry(tree, nothing);
        }

        @Override
        public Void visitLambdaExpression(LambdaExpressionTree tree, Void nothing) {
            forbidden("2 a lambda", tree);
            return null;
        }

        @Override
        public Void visitMemberReference(MemberReferenceTree tree, Void nothing) {
            forbidden("2 a method reference", tree);
            return null;
        }

        @Override
        public Void visitAssert(AssertTree tree, Void nothing) {
            forbidden("6 assert", tree);
            return null;
        }

        @Override
        public Void visitSynchronized(SynchronizedTree tree, Void nothing) {
            forbidden("6 synchronized", tree);
            return null;
        }

        @Override
        public Void visitBinary(BinaryTree tree, Void nothing) {
            checkJoining(tree);
            return super.visitBinary(tree, nothing);
        }

        @Override
        public Void visitCompoundAssignment(CompoundAssignmentTree tree, Void nothing) {
            checkJoining(tree);
            return super.visitCompoundAssignment(tree, nothing);
        }
    }
}
