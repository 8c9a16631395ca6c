import com.sun.source.tree.AssertTree;
import com.sun.source.tree.BinaryTree;
import com.sun.source.tree.ClassTree;
import com.sun.source.tree.CompilationUnitTree;
import com.sun.source.tree.ImportTree;
import com.sun.source.tree.LambdaExpressionTree;
import com.sun.source.tree.MemberReferenceTree;
import com.sun.source.tree.MethodInvocationTree;
import com.sun.source.tree.MethodTree;
import com.sun.source.tree.NewClassTree;
import com.sun.source.tree.SynchronizedTree;
import com.sun.source.tree.ThrowTree;
import com.sun.source.tree.Tree;
import com.sun.source.tree.TryTree;
import com.sun.source.tree.TypeCastTree;
import com.sun.source.tree.VariableTree;
import com.sun.source.util.JavacTask;
import com.sun.source.util.TreePath;
import com.sun.source.util.TreePathScanner;
import com.sun.source.util.Trees;
import java.io.IOException;
import java.io.File;
import java.util.HashMap;
import java.util.HashSet;
import java.util.Map;
import java.util.Set;
import java.util.TreeSet;
import java.util.regex.Pattern;
import javax.lang.model.element.Element;
import javax.lang.model.element.ElementKind;
import javax.lang.model.element.ExecutableElement;
import javax.lang.model.element.Modifier;
import javax.lang.model.type.TypeMirror;
import javax.tools.JavaCompiler;
import javax.tools.StandardJavaFileManager;
import javax.tools.ToolProvider;

/** Rules of LANGUAGE.md that can be seen from the source, as the compiler reads it; numbers are those of the rules. */
public final class SourceRulesTest {
    private static final Set<String> LIBRARY = Set.of(
            "String.length", "String.charAt", "String.isEmpty", "String.equals", "String.substring", "String.toCharArray",
            "Integer.bitCount", "Integer.compare", "Long.bitCount", "Math.min", "Math.max", "Math.abs",
            "System.arraycopy", "Arrays.copyOf", "Arrays.copyOfRange", "Arrays.fill");
    private static final Set<String> IMPORTS = Set.of("java.util.Arrays", "java.util.ArrayList", "java.util.List");
    private static final Pattern TYPES = Pattern.compile("(int|long|short|byte|char|boolean)(\\[\\])?|int\\[\\]\\[\\]"
            + "|java\\.lang\\.String|java\\.lang\\.StringBuilder|FeignedSuit(\\.\\w+)?(\\[\\])?");
    private static final Pattern CONSTANTS = Pattern.compile("int|long|boolean|char|java\\.lang\\.String|(int|long|char|byte)\\[\\]");
    private static final int DEEPEST = 8;
    private static final int LONGEST = 60;

    public static void main(String[] args) throws IOException {
        JavaCompiler compiler = ToolProvider.getSystemJavaCompiler();
        try (StandardJavaFileManager files = compiler.getStandardFileManager(null, null, null)) {
            JavacTask task = (JavacTask) compiler.getTask(null, files, null, null, null,
                    files.getJavaFileObjects(new File("src/main/java/FeignedSuit.java")));
            CompilationUnitTree unit = task.parse().iterator().next();
            task.analyze();
            Trees trees = Trees.instance(task);
            Look look = new Look(unit, trees);
            look.scan(new TreePath(unit), null);
            look.whole();
            Calls calls = new Calls(trees);
            calls.scan(new TreePath(unit), null);
            calls.depths();
        }
        Due.close();
    }

    /** What may stand in the source, and how much of it. */
    private static final class Look extends TreePathScanner<Void, Void> {
        final CompilationUnitTree unit;
        final Trees trees;
        final Set<String> face = new TreeSet<>();
        final Set<String> hidden = new TreeSet<>();
        int classes = 0;
        int looked = 0;

        Look(CompilationUnitTree unit, Trees trees) {
            this.unit = unit;
            this.trees = trees;
        }

        private String place(Tree tree) {
            return " at line " + unit.getLineMap().getLineNumber(trees.getSourcePositions().getStartPosition(unit, tree));
        }

        private Void never(String rule, Tree tree) {
            Due.is(rule + place(tree), tree.toString(), "not there");
            return null;
        }

        void whole() {
            Due.is("1: one class without a package", unit.getPackageName() == null && unit.getTypeDecls().size() == 1, true);
            Due.is("11: some twelve classes", classes <= 12, true);
            Due.is("methods of the face", face.size(), 33);
            hidden.retainAll(face);
            Due.is("1: other methods by a name of the face", hidden.toString(), "[]");
            Due.is("something was looked at", looked > 500, true);
        }

        @Override
        public Void visitImport(ImportTree tree, Void none) {
            Due.is("4: import" + place(tree), IMPORTS.contains(tree.getQualifiedIdentifier().toString()), true);
            return null;
        }

        @Override
        public Void visitClass(ClassTree tree, Void none) {
            classes++;
            Element element = trees.getElement(getCurrentPath());
            Element outer = element.getEnclosingElement();
            boolean inside = outer.getKind().isClass();
            Set<Modifier> modifiers = element.getModifiers();
            if (inside) {
                Due.is("2: " + tree.getSimpleName() + " is static", modifiers.contains(Modifier.STATIC), true);
                Due.is("1: " + tree.getSimpleName() + " is not seen from outside",
                        modifiers.contains(Modifier.PUBLIC) || modifiers.contains(Modifier.PROTECTED), false);
            } else {
                Due.is("2: neither local nor anonymous" + place(tree), outer.getKind() == ElementKind.PACKAGE, true);
            }
            int fields = 0;
            for (Tree member : tree.getMembers()) {
                if (member.getKind() == Tree.Kind.BLOCK) {
                    never("5: a block that is no method", member);
                }
                if (member instanceof VariableTree && !((VariableTree) member).getModifiers().getFlags().contains(Modifier.STATIC)) {
                    fields++;
                }
            }
            Due.is("11: " + tree.getSimpleName() + " has some twenty fields", fields <= 20, true);
            return super.visitClass(tree, none);
        }

        @Override
        public Void visitMethod(MethodTree tree, Void none) {
            looked++;
            Set<Modifier> modifiers = tree.getModifiers().getFlags();
            boolean ofFace = trees.getElement(getCurrentPath()).getEnclosingElement().getEnclosingElement().getKind()
                    == ElementKind.PACKAGE && modifiers.contains(Modifier.PUBLIC);
            if (!tree.getName().contentEquals("<init>")) {
                (ofFace ? face : hidden).add(tree.getName().toString());
            }
            long from = unit.getLineMap().getLineNumber(trees.getSourcePositions().getStartPosition(unit, tree));
            long to = unit.getLineMap().getLineNumber(trees.getSourcePositions().getEndPosition(unit, tree));
            Due.is("11: " + tree.getName() + " is short", to - from < LONGEST, true);
            Due.is("11: " + tree.getName() + " has at most seven parameters", tree.getParameters().size() <= 7, true);
            Due.is("6: " + tree.getName() + " throws nothing", tree.getThrows().size(), 0);
            return super.visitMethod(tree, none);
        }

        @Override
        public Void visitVariable(VariableTree tree, Void none) {
            looked++;
            Element element = trees.getElement(getCurrentPath());
            String type = element.asType().toString();
            Due.is("3: " + tree.getName() + " is of a type that may be" + place(tree) + ": " + type,
                    TYPES.matcher(type).matches(), true);
            if (element.getModifiers().contains(Modifier.STATIC)) {
                Due.is("5: " + tree.getName() + " is final", element.getModifiers().contains(Modifier.FINAL), true);
                Due.is("5: " + tree.getName() + " is a constant of a sort that may be", CONSTANTS.matcher(type).matches(), true);
            }
            return super.visitVariable(tree, none);
        }

        @Override
        public Void visitBinary(BinaryTree tree, Void none) {
            looked++;
            String left = typeOf(tree.getLeftOperand());
            String right = typeOf(tree.getRightOperand());
            boolean texts = left.equals("java.lang.String") || right.equals("java.lang.String");
            Due.is("6, 10: no sign between texts" + place(tree), texts, false);
            boolean divides = tree.getKind() == Tree.Kind.DIVIDE || tree.getKind() == Tree.Kind.REMAINDER;
            if (divides) {
                Element divisor = trees.getElement(new TreePath(getCurrentPath(), tree.getRightOperand()));
                boolean constant = divisor != null && divisor.getModifiers().contains(Modifier.FINAL)
                        && divisor.getModifiers().contains(Modifier.STATIC);
                Due.is("7: a divisor is a constant" + place(tree), constant, true);
            }
            return super.visitBinary(tree, none);
        }

        private String typeOf(Tree operand) {
            TypeMirror type = trees.getTypeMirror(new TreePath(getCurrentPath(), operand));
            return type == null ? "" : type.toString();
        }

        @Override
        public Void visitMethodInvocation(MethodInvocationTree tree, Void none) {
            looked++;
            Element called = trees.getElement(getCurrentPath());
            String owner = called.getEnclosingElement().toString();
            String name = called.getEnclosingElement().getSimpleName() + "." + called.getSimpleName();
            boolean own = owner.startsWith("FeignedSuit");
            boolean cloned = owner.equals("Array");
            boolean made = called.getKind() == ElementKind.CONSTRUCTOR;
            Due.is("4: " + name + " may be called" + place(tree), own || cloned || made || LIBRARY.contains(name), true);
            return super.visitMethodInvocation(tree, none);
        }

        @Override
        public Void visitNewClass(NewClassTree tree, Void none) {
            looked++;
            String type = typeOf(tree.getIdentifier());
            boolean own = type.startsWith("FeignedSuit") || type.equals("java.lang.StringBuilder");
            Due.is("4: " + type + " may be made" + place(tree), own && tree.getClassBody() == null, true);
            return super.visitNewClass(tree, none);
        }

        @Override
        public Void visitTypeCast(TypeCastTree tree, Void none) {
            Due.is("6: no cast but of numbers" + place(tree), typeOf(tree.getType()).matches("int|long|char|byte|short"), true);
            return super.visitTypeCast(tree, none);
        }

        @Override
        public Void visitLambdaExpression(LambdaExpressionTree tree, Void none) {
            return never("2: no lambda", tree);
        }

        @Override
        public Void visitMemberReference(MemberReferenceTree tree, Void none) {
            return never("2: no method reference", tree);
        }

        @Override
        public Void visitThrow(ThrowTree tree, Void none) {
            return never("6: no throw", tree);
        }

        @Override
        public Void visitTry(TryTree tree, Void none) {
            return never("6: no try", tree);
        }

        @Override
        public Void visitSynchronized(SynchronizedTree tree, Void none) {
            return never("6: no synchronized", tree);
        }

        @Override
        public Void visitAssert(AssertTree tree, Void none) {
            return never("6: no assert", tree);
        }
    }

    /** Who calls whom, and how deep that goes. */
    private static final class Calls extends TreePathScanner<Void, Void> {
        final Trees trees;
        final Map<Element, Set<Element>> calls = new HashMap<>();
        final Map<Element, Integer> depths = new HashMap<>();
        Element caller = null;

        Calls(Trees trees) {
            this.trees = trees;
        }

        void depths() {
            for (Element method : calls.keySet()) {
                int depth = depth(method, new HashSet<>());
                Due.is("11: calls of " + name(method) + " go at most eight deep: " + depth, depth <= DEEPEST, true);
            }
        }

        private static String name(Element method) {
            return method.getEnclosingElement().getSimpleName() + "." + method.getSimpleName();
        }

        /** The method itself counts one, and so does one of the library. */
        private int depth(Element method, Set<Element> above) {
            if (depths.containsKey(method)) {
                return depths.get(method);
            }
            Due.is("8: " + name(method) + " calls itself", above.contains(method), false);
            if (above.contains(method)) {
                return 1;
            }
            above.add(method);
            int deepest = 0;
            for (Element called : calls.getOrDefault(method, Set.of())) {
                deepest = Math.max(deepest, depth(called, above));
            }
            above.remove(method);
            depths.put(method, deepest + 1);
            return deepest + 1;
        }

        @Override
        public Void visitMethod(MethodTree tree, Void none) {
            Element outer = caller;
            caller = trees.getElement(getCurrentPath());
            calls.computeIfAbsent(caller, m -> new HashSet<>());
            super.visitMethod(tree, none);
            caller = outer;
            return null;
        }

        @Override
        public Void visitMethodInvocation(MethodInvocationTree tree, Void none) {
            add(trees.getElement(getCurrentPath()));
            return super.visitMethodInvocation(tree, none);
        }

        @Override
        public Void visitNewClass(NewClassTree tree, Void none) {
            add(trees.getElement(getCurrentPath()));
            return super.visitNewClass(tree, none);
        }

        private void add(Element called) {
            if (caller != null && called instanceof ExecutableElement) {
                calls.get(caller).add(called);
            }
        }
    }
}
