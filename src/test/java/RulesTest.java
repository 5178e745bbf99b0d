import com.sun.source.tree.AssertTree;
import com.sun.source.tree.ClassTree;
import com.sun.source.tree.CompilationUnitTree;
import com.sun.source.tree.IdentifierTree;
import com.sun.source.tree.ImportTree;
import com.sun.source.tree.LambdaExpressionTree;
import com.sun.source.tree.LineMap;
import com.sun.source.tree.MemberReferenceTree;
import com.sun.source.tree.MemberSelectTree;
import com.sun.source.tree.MethodInvocationTree;
import com.sun.source.tree.MethodTree;
import com.sun.source.tree.NewArrayTree;
import com.sun.source.tree.NewClassTree;
import com.sun.source.tree.SynchronizedTree;
import com.sun.source.tree.ThrowTree;
import com.sun.source.tree.Tree;
import com.sun.source.tree.TryTree;
import com.sun.source.tree.VariableTree;
import com.sun.source.util.JavacTask;
import com.sun.source.util.TreePathScanner;
import com.sun.source.util.Trees;
import java.io.File;
import java.io.IOException;
import java.util.HashMap;
import java.util.HashSet;
import java.util.LinkedHashSet;
import java.util.List;
import java.util.Map;
import java.util.Set;
import javax.lang.model.element.Element;
import javax.lang.model.element.ElementKind;
import javax.lang.model.element.ExecutableElement;
import javax.lang.model.element.Modifier;
import javax.lang.model.type.ArrayType;
import javax.lang.model.type.TypeKind;
import javax.lang.model.type.TypeMirror;
import javax.tools.JavaCompiler;
import javax.tools.StandardJavaFileManager;
import javax.tools.ToolProvider;

/**
 * The rules of LANGUAGE.md that can be seen in the program's text. Where the program needs less than a
 * rule allows (it calls no library, catches nothing, makes objects in constructors alone), it is held to that.
 */
public final class RulesTest {
    private static final File PROGRAM = new File("src/main/java/FrameMachine.java");
    private static final Set<String> FACE = Set.of(
        "poke", "peek", "set", "status", "run", "comes", "reset", "get", "gone", "about");

    public static void main(String[] args) throws IOException {
        JavaCompiler compiler = ToolProvider.getSystemJavaCompiler();
        try (StandardJavaFileManager files = compiler.getStandardFileManager(null, null, null)) {
            JavacTask task = (JavacTask) compiler.getTask(
                null, files, null, List.of("-proc:none"), null, files.getJavaFileObjects(PROGRAM));
            Iterable<? extends CompilationUnitTree> units = task.parse();
            task.analyze();
            for (CompilationUnitTree unit : units) {
                Walk walk = new Walk(Trees.instance(task), unit);
                walk.scan(unit, null);
                walk.end();
            }
        }
        Rig.end("RulesTest");
    }

    private static final class Walk extends TreePathScanner<Void, Void> {
        private final Trees trees;
        private final CompilationUnitTree unit;
        private final Map<Element, Set<Element>> calls = new HashMap<>();
        private Element method;
        private int classes;

        Walk(Trees trees, CompilationUnitTree unit) {
            this.trees = trees;
            this.unit = unit;
            Rig.due("one top class, and no package", unit.getTypeDecls().size() == 1 && unit.getPackageName() == null, true);
        }

        void end() {
            Rig.due("rule 11: at most some twelve classes", classes <= 12, true);
            for (Element start : calls.keySet()) {
                int depth = depthOf(start, new HashSet<>());
                Rig.due("rule 11: calls go at most eight deep from " + start + " (" + depth + ")", depth <= 8, true);
            }
        }

        /** A call that comes back to an open method would have no end here: it counts as far too deep. */
        private int depthOf(Element start, Set<Element> open) {
            if (!open.add(start)) {
                return 1000;
            }
            int deepest = 0;
            for (Element called : calls.getOrDefault(start, Set.of())) {
                deepest = Math.max(deepest, depthOf(called, open));
            }
            open.remove(start);
            return 1 + deepest;
        }

        private void no(String rule, Tree tree) {
            Rig.due("line " + lineOf(tree) + ", " + rule + ": " + tree, true, false);
        }

        private long lineOf(Tree tree) {
            return lineAt(trees.getSourcePositions().getStartPosition(unit, tree));
        }

        private long lineAt(long position) {
            LineMap lines = unit.getLineMap();
            return lines.getLineNumber(position);
        }

        private Element element() {
            return trees.getElement(getCurrentPath());
        }

        private static boolean isOwn(Element element) {
            for (Element e = element; e != null; e = e.getEnclosingElement()) {
                if (e.getKind() == ElementKind.CLASS && e.getSimpleName().contentEquals("FrameMachine")) {
                    return true;
                }
            }
            return false;
        }

        @Override
        public Void visitImport(ImportTree tree, Void none) {
            no("rule 4: an import", tree);
            return null;
        }

        @Override
        public Void visitClass(ClassTree tree, Void none) {
            classes++;
            int fields = 0;
            for (Tree member : tree.getMembers()) {
                boolean isField = member instanceof VariableTree;
                boolean isConstant = isField && ((VariableTree) member).getModifiers().getFlags().contains(Modifier.STATIC);
                fields += isField && !isConstant ? 1 : 0;
                if (member.getKind() == Tree.Kind.BLOCK) {
                    no("rule 5: an initialiser block", member);
                }
            }
            Rig.due("rule 11: at most some twenty fields in " + tree.getSimpleName(), fields <= 20, true);
            return super.visitClass(tree, none);
        }

        @Override
        public Void visitMethod(MethodTree tree, Void none) {
            method = element();
            calls.put(method, new LinkedHashSet<>());
            long end = trees.getSourcePositions().getEndPosition(unit, tree);
            Rig.due("rule 11: lines of " + method, lineAt(end) - lineOf(tree) < 60, true);
            Rig.due("rule 11: parameters of " + method, tree.getParameters().size() <= 7, true);
            boolean clashes = method.getModifiers().contains(Modifier.PRIVATE) && FACE.contains(tree.getName().toString());
            Rig.due("rule 1: no private method bears a public one's name: " + method, clashes, false);
            super.visitMethod(tree, none);
            method = null;
            return null;
        }

        @Override
        public Void visitVariable(VariableTree tree, Void none) {
            Element variable = element();
            Rig.due("line " + lineOf(tree) + ", rule 3: the type of " + tree, isAllowed(variable.asType()), true);
            Set<Modifier> modifiers = variable.getModifiers();
            boolean isChanging = modifiers.contains(Modifier.STATIC) && !modifiers.contains(Modifier.FINAL);
            Rig.due("rule 5: static state: " + tree, isChanging, false);
            return super.visitVariable(tree, none);
        }

        private static boolean isAllowed(TypeMirror type) {
            if (type.getKind() == TypeKind.ARRAY) {
                return ((ArrayType) type).getComponentType().getKind().isPrimitive();
            }
            return type.getKind().isPrimitive() || type.toString().startsWith("FrameMachine.");
        }

        @Override
        public Void visitMethodInvocation(MethodInvocationTree tree, Void none) {
            Element called = element();
            boolean isOfObject = called != null && called.getSimpleName().contentEquals("<init>");
            if (called instanceof ExecutableElement && isOwn(called)) {
                calls.computeIfAbsent(method, m -> new LinkedHashSet<>()).add(called);
            } else if (!isOfObject) {
                no("rule 4: a call of the library", tree);
            }
            return super.visitMethodInvocation(tree, none);
        }

        @Override
        public Void visitIdentifier(IdentifierTree tree, Void none) {
            lookAtName(tree);
            return super.visitIdentifier(tree, none);
        }

        @Override
        public Void visitMemberSelect(MemberSelectTree tree, Void none) {
            lookAtName(tree);
            return super.visitMemberSelect(tree, none);
        }

        private void lookAtName(Tree tree) {
            Element named = element();
            boolean isForeign = named != null && named.getKind() == ElementKind.FIELD
                && !named.getSimpleName().contentEquals("length") && !named.getSimpleName().contentEquals("this")
                && !isOwn(named);
            if (isForeign) {
                no("rule 4: a constant of the library", tree);
            }
        }

        @Override
        public Void visitNewClass(NewClassTree tree, Void none) {
            boolean isThrown = getCurrentPath().getParentPath().getLeaf() instanceof ThrowTree;
            if (!isThrown) {
                Rig.due("line " + lineOf(tree) + ", rule 4: " + tree, isOwn(element()), true);
                lookWhereItIsMade(tree);
            }
            return super.visitNewClass(tree, none);
        }

        @Override
        public Void visitNewArray(NewArrayTree tree, Void none) {
            lookWhereItIsMade(tree);
            return super.visitNewArray(tree, none);
        }

        private void lookWhereItIsMade(Tree tree) {
            boolean inConstructor = method == null || method.getKind() == ElementKind.CONSTRUCTOR;
            Rig.due("line " + lineOf(tree) + ", rule 12: made in a constructor: " + tree, inConstructor, true);
        }

        @Override
        public Void visitThrow(ThrowTree tree, Void none) {
            String text = tree.toString();
            boolean isWritten = text.matches("throw new IllegalArgumentException\\((\"[^\"]*\")?\\);");
            Rig.due("line " + lineOf(tree) + ", rule 6: " + text, isWritten, true);
            boolean inFace = method != null && method.getModifiers().contains(Modifier.PUBLIC)
                && method.getKind() == ElementKind.METHOD;
            Rig.due("line " + lineOf(tree) + ", rule 6: thrown by a call of the face", inFace, true);
            return super.visitThrow(tree, none);
        }

        @Override
        public Void visitTry(TryTree tree, Void none) {
            no("rule 6: nothing is caught", tree);
            return null;
        }

        @Override
        public Void visitLambdaExpression(LambdaExpressionTree tree, Void none) {
            no("rule 2: a lambda", tree);
            return null;
        }

        @Override
        public Void visitMemberReference(MemberReferenceTree tree, Void none) {
            no("rule 2: a method reference", tree);
            return null;
        }

        @Override
        public Void visitSynchronized(SynchronizedTree tree, Void none) {
            no("rule 6: synchronized", tree);
            return null;
        }

        @Override
        public Void visitAssert(AssertTree tree, Void none) {
            no("rule 6: assert", tree);
            return null;
        }
    }
}
