import com.sun.source.tree.AssertTree;
import com.sun.source.tree.BinaryTree;
import com.sun.source.tree.ClassTree;
import com.sun.source.tree.CompilationUnitTree;
import com.sun.source.tree.CompoundAssignmentTree;
import com.sun.source.tree.ImportTree;
import com.sun.source.tree.LambdaExpressionTree;
import com.sun.source.tree.MemberReferenceTree;
import com.sun.source.tree.MethodInvocationTree;
import com.sun.source.tree.MethodTree;
import com.sun.source.tree.NewArrayTree;
import com.sun.source.tree.NewClassTree;
import com.sun.source.tree.SynchronizedTree;
import com.sun.source.tree.ThrowTree;
import com.sun.source.tree.Tree;
import com.sun.source.tree.TryTree;
import com.sun.source.tree.TypeCastTree;
import com.sun.source.tree.VariableTree;
import com.sun.source.util.JavacTask;
import com.sun.source.util.TreePathScanner;
import com.sun.source.util.Trees;
import java.nio.file.Files;
import java.nio.file.Path;
import java.util.HashMap;
import java.util.List;
import java.util.Map;
import java.util.Set;
import java.util.TreeSet;
import javax.lang.model.element.Element;
import javax.lang.model.element.ElementKind;
import javax.lang.model.element.Modifier;
import javax.lang.model.type.TypeKind;
import javax.lang.model.type.TypeMirror;
import javax.tools.JavaCompiler;
import javax.tools.StandardJavaFileManager;
import javax.tools.ToolProvider;

/** LANGUAGE.md by the program's own tree, as the compiler reads it: what it is made of, what it calls, how deep. */
public final class ProgramTest {
    private static final Path PROGRAM = Path.of("src/main/java/BarSteps.java");
    private static final int MOST_DEEP = 8, MOST_LINES = 60, MOST_PARAMETERS = 7;
    private static final int MOST_CLASSES = 12, MOST_FIELDS = 20;
    private static final Set<String> LIBRARY = Set.of("String.length", "String.charAt", "String.isEmpty",
        "String.equals", "String.substring", "String.toCharArray", "System.arraycopy", "Arrays.copyOf",
        "Arrays.copyOfRange", "Arrays.fill", "Math.max", "Math.min", "Math.abs", "Math.floorDiv",
        "Math.floorMod", "Integer.compare", "Integer.bitCount", "Long.compare", "Long.bitCount", "Object.<init>");
    private static final Set<String> STATICS = Set.of("int", "long", "boolean", "char", "java.lang.String",
        "int[]", "long[]", "char[]", "byte[]");

    private static int held = 0;
    private static int wrong = 0;

    public static void main(String[] args) throws Exception {
        JavaCompiler compiler = ToolProvider.getSystemJavaCompiler();
        try (StandardJavaFileManager files = compiler.getStandardFileManager(null, null, null)) {
            JavacTask task = (JavacTask) compiler.getTask(null, files, null, null, null,
                files.getJavaFileObjects(PROGRAM));
            Look look = new Look(Trees.instance(task));
            for (CompilationUnitTree unit : task.parse()) {
                task.analyze();
                hold("no package line", unit.getPackageName() == null);
                look.unit = unit;
                look.scan(unit, null);
            }
            hold("classes enough to be read", look.classes > 0 && look.calls.size() > 43);
            hold("twelve classes at most, not " + look.classes, look.classes <= MOST_CLASSES);
            depths(look.calls);
        }
        hold("the program's signs are plain ones", Files.readString(PROGRAM).matches("[\\n -~]*+"));
        System.out.println("ProgramTest: " + held + " hold, " + wrong + " do not");
        if (wrong != 0) {
            System.exit(1);
        }
    }

    private static void hold(String what, boolean holds) {
        held += holds ? 1 : 0;
        if (!holds) {
            wrong++;
            System.out.println("not so: " + what);
        }
    }

    private static void depths(Map<String, Set<String>> calls) {
        for (String method : calls.keySet()) {
            int deep = depthOf(method, calls, 1);
            hold(method + " goes eight deep at most, not " + deep, deep <= MOST_DEEP);
        }
    }

    /** Calls that go round have no depth, so it stops a little above what is fine. */
    private static int depthOf(String method, Map<String, Set<String>> calls, int above) {
        int most = above;
        if (above <= MOST_DEEP) {
            for (String next : calls.getOrDefault(method, Set.of())) {
                most = Math.max(most, depthOf(next, calls, above + 1));
            }
        }
        return most;
    }

    private static final class Look extends TreePathScanner<Void, Void> {
        final Map<String, Set<String>> calls = new HashMap<>();
        int classes = 0;
        CompilationUnitTree unit;
        private final Trees trees;
        private MethodTree in = null;

        Look(Trees trees) {
            this.trees = trees;
        }

        private Element here() {
            return trees.getElement(getCurrentPath());
        }

        private TypeMirror typeOf(Tree tree) {
            return trees.getTypeMirror(trees.getPath(unit, tree));
        }

        private static String nameOf(Element method) {
            return method.getEnclosingElement().getSimpleName() + "." + method.getSimpleName();
        }

        private static boolean isOwn(Element member) {
            return member.getEnclosingElement().toString().startsWith("BarSteps");
        }

        private void ruledOut(String what, Tree tree) {
            hold(what + " is ruled out: " + tree, false);
        }

        private long lineOf(long place) {
            return unit.getLineMap().getLineNumber(place);
        }

        @Override
        public Void visitClass(ClassTree tree, Void v) {
            classes++;
            Element type = here();
            boolean outer = type.getEnclosingElement().getKind() == ElementKind.PACKAGE;
            hold(type + " is static, if it stands inside", outer || type.getModifiers().contains(Modifier.STATIC)
                && type.getEnclosingElement().toString().equals("BarSteps"));
            hold(type + " is private or package-visible, if it stands inside", outer
                || !type.getModifiers().contains(Modifier.PUBLIC) && !type.getModifiers().contains(Modifier.PROTECTED));
            int fields = 0;
            for (Tree member : tree.getMembers()) {
                boolean field = member instanceof VariableTree;
                fields += field && !((VariableTree) member).getModifiers().getFlags().contains(Modifier.STATIC) ? 1 : 0;
                hold("a block on its own in " + type + " is ruled out", member.getKind() != Tree.Kind.BLOCK);
            }
            hold(type + " has twenty fields at most, not " + fields, fields <= MOST_FIELDS);
            return super.visitClass(tree, v);
        }

        @Override
        public Void visitMethod(MethodTree tree, Void v) {
            Element method = here();
            calls.computeIfAbsent(nameOf(method), k -> new TreeSet<>());
            hold(nameOf(method) + " takes seven at most", tree.getParameters().size() <= MOST_PARAMETERS);
            long first = lineOf(trees.getSourcePositions().getStartPosition(unit, tree));
            long last = lineOf(trees.getSourcePositions().getEndPosition(unit, tree));
            hold(nameOf(method) + " stays short", last - first < MOST_LINES);
            hold(nameOf(method) + " tells of nothing thrown", tree.getThrows().isEmpty());
            hold(nameOf(method) + " is none of an object's own",
                !Set.of("equals", "hashCode", "toString", "finalize").contains(method.getSimpleName().toString()));
            MethodTree around = in;
            in = tree;
            super.visitMethod(tree, v);
            in = around;
            return null;
        }

        @Override
        public Void visitVariable(VariableTree tree, Void v) {
            Element variable = here();
            boolean field = variable.getKind() == ElementKind.FIELD;
            if (field && variable.getModifiers().contains(Modifier.STATIC)) {
                hold(variable + " is final", variable.getModifiers().contains(Modifier.FINAL));
                hold(variable + " is of a type that a constant may have", STATICS.contains(variable.asType().toString()));
            }
            boolean face = List.of("NONE", "BAD", "STATE", "FULL", "NO").contains(variable.toString());
            hold(variable + " of the class is private, but for the face", !field || face
                || !variable.getEnclosingElement().toString().equals("BarSteps")
                || variable.getModifiers().contains(Modifier.PRIVATE));
            return super.visitVariable(tree, v);
        }

        @Override
        public Void visitMethodInvocation(MethodInvocationTree tree, Void v) {
            Element called = here();
            String name = nameOf(called);
            hold(name + " is the program's own, or may be used", isOwn(called) || LIBRARY.contains(name));
            if (in != null) {
                Element caller = trees.getElement(trees.getPath(unit, in));
                calls.computeIfAbsent(nameOf(caller), k -> new TreeSet<>()).add(name);
            }
            return super.visitMethodInvocation(tree, v);
        }

        @Override
        public Void visitNewClass(NewClassTree tree, Void v) {
            hold("made of a class of its own: " + tree, isOwn(here()) && tree.getClassBody() == null);
            made(tree);
            return super.visitNewClass(tree, v);
        }

        @Override
        public Void visitNewArray(NewArrayTree tree, Void v) {
            made(tree);
            return super.visitNewArray(tree, v);
        }

        /** Calls make nothing: all rows are made with the object. */
        private void made(Tree tree) {
            hold("made as the object is: " + tree, in == null || in.getName().contentEquals("<init>"));
        }

        @Override
        public Void visitBinary(BinaryTree tree, Void v) {
            TypeMirror type = typeOf(tree);
            hold("texts are not joined by +: " + tree, type.getKind().isPrimitive());
            hold("no doubles, no floats: " + tree, type.getKind() != TypeKind.DOUBLE && type.getKind() != TypeKind.FLOAT);
            boolean divides = tree.getKind() == Tree.Kind.DIVIDE || tree.getKind() == Tree.Kind.REMAINDER;
            // What divides is a number that can be seen, or a name that the same method looks at.
            String by = tree.getRightOperand().toString();
            hold("a divisor is looked at: " + tree, !divides || by.matches("[1-9]\\d*")
                || in != null && in.getBody().toString().matches("(?s).*\\b" + by + " (==|!=) 0\\b.*"));
            return super.visitBinary(tree, v);
        }

        @Override
        public Void visitCompoundAssignment(CompoundAssignmentTree tree, Void v) {
            hold("a divisor can't be looked at there: " + tree, tree.getKind() != Tree.Kind.DIVIDE_ASSIGNMENT
                && tree.getKind() != Tree.Kind.REMAINDER_ASSIGNMENT);
            return super.visitCompoundAssignment(tree, v);
        }

        @Override
        public Void visitTypeCast(TypeCastTree tree, Void v) {
            hold("a cast of numbers: " + tree, typeOf(tree).getKind().isPrimitive());
            return super.visitTypeCast(tree, v);
        }

        @Override
        public Void visitImport(ImportTree tree, Void v) {
            hold("imported from java.util: " + tree, tree.getQualifiedIdentifier().toString().startsWith("java.util."));
            return super.visitImport(tree, v);
        }

        @Override
        public Void visitThrow(ThrowTree tree, Void v) {
            ruledOut("throw", tree);
            return null;
        }

        @Override
        public Void visitTry(TryTree tree, Void v) {
            ruledOut("try", tree);
            return null;
        }

        @Override
        public Void visitSynchronized(SynchronizedTree tree, Void v) {
            ruledOut("synchronized", tree);
            return null;
        }

        @Override
        public Void visitAssert(AssertTree tree, Void v) {
            ruledOut("assert", tree);
            return null;
        }

        @Override
        public Void visitLambdaExpression(LambdaExpressionTree tree, Void v) {
            ruledOut("a lambda", tree);
            return null;
        }

        @Override
        public Void visitMemberReference(MemberReferenceTree tree, Void v) {
            ruledOut("a method reference", tree);
            return null;
        }
    }
}
