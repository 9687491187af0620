import com.sun.source.tree.AssertTree;
import com.sun.source.tree.BinaryTree;
import com.sun.source.tree.ClassTree;
import com.sun.source.tree.CompilationUnitTree;
import com.sun.source.tree.ExpressionTree;
import com.sun.source.tree.IdentifierTree;
import com.sun.source.tree.ImportTree;
import com.sun.source.tree.LambdaExpressionTree;
import com.sun.source.tree.LiteralTree;
import com.sun.source.tree.MemberReferenceTree;
import com.sun.source.tree.MethodInvocationTree;
import com.sun.source.tree.MethodTree;
import com.sun.source.tree.NewClassTree;
import com.sun.source.tree.SynchronizedTree;
import com.sun.source.tree.ThrowTree;
import com.sun.source.tree.Tree;
import com.sun.source.tree.TryTree;
import com.sun.source.tree.VariableTree;
import com.sun.source.util.JavacTask;
import com.sun.source.util.SourcePositions;
import com.sun.source.util.TreePathScanner;
import com.sun.source.util.Trees;
import java.io.File;
import java.io.IOException;
import java.util.List;
import java.util.Map;
import java.util.Set;
import java.util.TreeMap;
import java.util.TreeSet;
import javax.lang.model.element.Element;
import javax.lang.model.element.Modifier;
import javax.tools.JavaCompiler;
import javax.tools.StandardJavaFileManager;
import javax.tools.ToolProvider;

/** Those rules of LANGUAGE.md that are easily seen in the class's source; guards and ends of loops are not among them. */
public final class LanguageTest extends Checks {
    private static final String MAIN = "src/main/java/SharedPurse.java";
    private static final Set<String> IMPORTS = Set.of("java.util.Arrays", "java.util.NoSuchElementException",
            "java.util.ArrayList", "java.util.List", "java.util.Iterator");
    private static final Set<String> LIBRARY = Set.of("Arrays.fill", "Arrays.copyOf", "Arrays.copyOfRange",
            "System.arraycopy", "Math.max", "Math.min", "Integer.bitCount", "Integer.numberOfTrailingZeros",
            "word.length", "word.charAt");
    private static final Set<String> EXCEPTIONS = Set.of("IllegalStateException", "IllegalArgumentException",
            "IndexOutOfBoundsException", "ArithmeticException", "UnsupportedOperationException",
            "NoSuchElementException", "RuntimeException");
    private static final int DEPTH = 8;

    public static void main(String[] args) throws IOException {
        JavaCompiler compiler = ToolProvider.getSystemJavaCompiler();
        try (StandardJavaFileManager files = compiler.getStandardFileManager(null, null, null)) {
            JavacTask task = (JavacTask) compiler.getTask(null, files, null, null, null,
                    files.getJavaFileObjects(new File(MAIN)));
            Iterable<? extends CompilationUnitTree> units = task.parse();
            task.analyze();
            for (CompilationUnitTree unit : units) {
                Look look = new Look(unit, Trees.instance(task));
                look.scan(unit, null);
                look.names();
                look.depths();
            }
        }
        finish("the rules of the language hold");
    }

    private static final class Look extends TreePathScanner<Void, Void> {
        private final CompilationUnitTree unit;
        private final Trees trees;
        private final SourcePositions places;
        private final Set<String> publicNames = new TreeSet<>();
        private final Set<String> otherNames = new TreeSet<>();
        private final Set<String> publicMethods = new TreeSet<>();
        /** Of each method of the file, by class and name, what it calls. */
        private final Map<String, Set<String>> calls = new TreeMap<>();
        private final Set<String> libraryCalls = new TreeSet<>();
        private int classes = 0;
        private String method = "";

        Look(CompilationUnitTree unit, Trees trees) {
            this.unit = unit;
            this.trees = trees;
            this.places = trees.getSourcePositions();
        }

        private String here() {
            Element e = trees.getElement(getCurrentPath());
            return e == null ? "" : e.getEnclosingElement() + "." + e.getSimpleName();
        }

        private long line(Tree tree, boolean end) {
            long at = end ? places.getEndPosition(unit, tree) : places.getStartPosition(unit, tree);
            return unit.getLineMap().getLineNumber(at);
        }

        private void not(String what, Tree tree) {
            no(what + " in line " + line(tree, false), true);
        }

        @Override public Void visitImport(ImportTree tree, Void none) {
            says("4: only what stands here");
            yes("import of " + tree.getQualifiedIdentifier(),
                    IMPORTS.contains(tree.getQualifiedIdentifier().toString()));
            return null;
        }

        @Override public Void visitClass(ClassTree tree, Void none) {
            classes++;
            says("1: classes inside it, which are private or package-visible and static");
            Set<Modifier> flags = tree.getModifiers().getFlags();
            yes("flags of " + tree.getSimpleName(), classes == 1 ? flags.contains(Modifier.PUBLIC)
                    : flags.contains(Modifier.STATIC) && !flags.contains(Modifier.PUBLIC));
            says("11: at most some twelve classes, and a class some twenty fields beside its constants");
            yes("classes", classes <= 12);
            int fields = 0;
            for (Tree member : tree.getMembers()) {
                if (member instanceof VariableTree) {
                    fields += isConstant((VariableTree) member) ? 0 : 1;
                }
                says("5: no static initialiser block");
                no("a block in " + tree.getSimpleName(), member.getKind() == Tree.Kind.BLOCK);
            }
            yes("fields of " + tree.getSimpleName(), fields <= 20);
            return super.visitClass(tree, none);
        }

        private boolean isConstant(VariableTree field) {
            says("5: Static fields are final");
            Set<Modifier> flags = field.getModifiers().getFlags();
            boolean isStatic = flags.contains(Modifier.STATIC);
            yes(field.getName() + " is final", !isStatic || flags.contains(Modifier.FINAL));
            return isStatic;
        }

        @Override public Void visitVariable(VariableTree tree, Void none) {
            says("3: arrays of one dimension (of two, of numbers)");
            no("three dimensions of " + tree.getName(), tree.getType().toString().contains("[][][]"));
            return super.visitVariable(tree, none);
        }

        @Override public Void visitMethod(MethodTree tree, Void none) {
            method = here();
            calls.putIfAbsent(method, new TreeSet<>());
            says("11: at most seven parameters. Methods stay short (some sixty lines)");
            yes("parameters of " + method, tree.getParameters().size() <= 7);
            yes("lines of " + method, line(tree, true) - line(tree, false) < 60);
            boolean isPublic = tree.getModifiers().getFlags().contains(Modifier.PUBLIC);
            if (isPublic) {
                publicMethods.add(method);
            }
            if (tree.getReturnType() != null) {
                (isPublic ? publicNames : otherNames).add(tree.getName().toString());
            }
            return super.visitMethod(tree, none);
        }

        @Override public Void visitMethodInvocation(MethodInvocationTree tree, Void none) {
            String called = tree.getMethodSelect().toString();
            calls.computeIfAbsent(method, m -> new TreeSet<>()).add(here());
            if (!here().startsWith("SharedPurse") && !called.equals("super")) {
                libraryCalls.add(called);
            }
            return super.visitMethodInvocation(tree, none);
        }

        @Override public Void visitThrow(ThrowTree tree, Void none) {
            says("6: throw new E() or throw new E(\"a written text\"); no throw in a constructor");
            no("a throw in a constructor", method.endsWith("<init>"));
            if (tree.getExpression() instanceof NewClassTree) {
                NewClassTree made = (NewClassTree) tree.getExpression();
                yes(made + "", EXCEPTIONS.contains(made.getIdentifier().toString()));
                for (ExpressionTree text : made.getArguments()) {
                    yes(made + "", text instanceof LiteralTree);
                }
            } else {
                not("a throw of what isn't new", tree);
            }
            return super.visitThrow(tree, none);
        }

        @Override public Void visitTry(TryTree tree, Void none) {
            says("6: No finally, no try with resources");
            yes("finally", tree.getFinallyBlock() == null);
            yes("resources", tree.getResources().isEmpty());
            return super.visitTry(tree, none);
        }

        @Override public Void visitBinary(BinaryTree tree, Void none) {
            says("10: joining texts by StringBuilder (not by +)");
            for (ExpressionTree side : List.of(tree.getLeftOperand(), tree.getRightOperand())) {
                no("+ of a text", side.getKind() == Tree.Kind.STRING_LITERAL);
            }
            return super.visitBinary(tree, none);
        }

        @Override public Void visitLambdaExpression(LambdaExpressionTree tree, Void none) {
            says("2: no lambda");
            not("a lambda", tree);
            return null;
        }

        @Override public Void visitMemberReference(MemberReferenceTree tree, Void none) {
            says("2: no method reference");
            not("a method reference", tree);
            return null;
        }

        @Override public Void visitSynchronized(SynchronizedTree tree, Void none) {
            says("6: No synchronized");
            not("synchronized", tree);
            return null;
        }

        @Override public Void visitAssert(AssertTree tree, Void none) {
            says("6: No assert");
            not("an assert", tree);
            return null;
        }

        @Override public Void visitIdentifier(IdentifierTree tree, Void none) {
            says("3: Types");
            if (Set.of("Object", "Long", "Double", "Map", "Set", "var").contains(tree.getName().toString())) {
                not(tree.getName().toString(), tree);
            }
            return null;
        }

        void names() {
            says("1: No private method bears the name of a public one");
            otherNames.retainAll(publicNames);
            due("such names " + otherNames, otherNames.size(), 0);
            says("4: The library: only what stands here");
            for (String called : libraryCalls) {
                yes("call of " + called, LIBRARY.contains(called));
            }
        }

        void depths() {
            says("11: calls that are no recursion go at most eight deep");
            for (String name : publicMethods) {
                int depth = depth(name, 1);
                yes(name + " goes " + depth + " deep", depth <= DEPTH);
            }
        }

        private int depth(String name, int now) {
            int most = now;
            for (String called : calls.getOrDefault(name, Set.of())) {
                if (calls.containsKey(called) && now <= DEPTH) {
                    most = Math.max(most, depth(called, now + 1));
                }
            }
            return most;
        }
    }
}
