import com.sun.source.tree.*;
import com.sun.source.util.JavacTask;
import com.sun.source.util.SourcePositions;
import com.sun.source.util.TreePathScanner;
import com.sun.source.util.Trees;
import java.io.File;
import java.nio.file.Files;
import java.nio.file.Path;
import java.util.ArrayList;
import java.util.EnumSet;
import java.util.HashMap;
import java.util.List;
import java.util.Map;
import java.util.Set;
import java.util.TreeSet;
import javax.lang.model.element.Element;
import javax.lang.model.element.ElementKind;
import javax.lang.model.element.ExecutableElement;
import javax.lang.model.element.Modifier;
import javax.lang.model.element.VariableElement;
import javax.lang.model.type.TypeMirror;
import javax.tools.JavaCompiler;
import javax.tools.StandardJavaFileManager;
import javax.tools.ToolProvider;

/** What of LANGUAGE.md can be seen in the class's source by looking at its tree. Run it in the project's folder. */
public final class LanguageTest {
    private static final Set<Tree.Kind> NEVER = EnumSet.of(Tree.Kind.THROW, Tree.Kind.TRY, Tree.Kind.CATCH,
        Tree.Kind.SYNCHRONIZED, Tree.Kind.ASSERT, Tree.Kind.LAMBDA_EXPRESSION, Tree.Kind.MEMBER_REFERENCE,
        Tree.Kind.IMPORT, Tree.Kind.PACKAGE, Tree.Kind.ANNOTATION, Tree.Kind.SWITCH_EXPRESSION, Tree.Kind.STRING_LITERAL);
    // What the class has need of; the rules allow some more.
    private static final Set<String> TYPES = Set.of("int", "long", "boolean", "int[]", "void");
    private static final Set<String> CASTS = Set.of("int", "long");
    private static final Set<String> LIBRARY = Set.of("java.lang.Math.min", "java.lang.Math.max",
        "java.lang.Integer.bitCount", "java.lang.Object.<init>");

    public static void main(String[] args) throws Exception {
        String source = Files.readString(Path.of("src/main/java/ChainLetters.java"));
        Check.that("the source has signs 1 to 127 alone", source.chars().allMatch(sign -> sign > 0 && sign < 128));
        JavaCompiler javac = ToolProvider.getSystemJavaCompiler();
        StandardJavaFileManager files = javac.getStandardFileManager(null, null, null);
        JavacTask task = (JavacTask) javac.getTask(null, files, null, List.of("-proc:none"), null,
            files.getJavaFileObjects(new File("src/main/java/ChainLetters.java")));
        Iterable<? extends CompilationUnitTree> units = task.parse();
        task.analyze();
        for (CompilationUnitTree unit : units) {
            Looker looker = new Looker(Trees.instance(task), unit);
            looker.scan(unit, null);
            looker.end();
        }
        Check.end();
    }

    private static final class Looker extends TreePathScanner<Void, Void> {
        private final Trees trees;
        private final CompilationUnitTree unit;
        private final Map<Element, Set<Element>> calls = new HashMap<>();
        private final Map<Element, Integer> depths = new HashMap<>();
        private final Set<String> hiddenNames = new TreeSet<>();
        private final Set<String> faceNames = new TreeSet<>();
        private Element inside;
        private int classes;

        Looker(Trees trees, CompilationUnitTree unit) {
            this.trees = trees;
            this.unit = unit;
        }

        private long line(long position) {
            return unit.getLineMap().getLineNumber(position);
        }

        private Element here() {
            return trees.getElement(getCurrentPath());
        }

        @Override
        public Void scan(Tree tree, Void v) {
            if (tree != null && NEVER.contains(tree.getKind())) {
                SourcePositions at = trees.getSourcePositions();
                Check.that("no " + tree.getKind() + " in line " + line(at.getStartPosition(unit, tree)), false);
            }
            return super.scan(tree, v);
        }

        @Override
        public Void visitClass(ClassTree tree, Void v) {
            classes++;
            int fields = 0;
            for (Tree member : tree.getMembers()) {
                Check.that("no initialiser block in " + tree.getSimpleName(), member.getKind() != Tree.Kind.BLOCK);
                if (!(member instanceof VariableTree)) continue;
                Set<Modifier> flags = ((VariableTree) member).getModifiers().getFlags();
                if (!flags.contains(Modifier.STATIC)) fields++;
                else Check.that(member + " is a constant", isConstant(member));
            }
            Check.that(tree.getSimpleName() + " has " + fields + " fields", fields <= 20);
            Check.that(tree.getSimpleName() + " has a name", tree.getSimpleName().length() > 0);
            return super.visitClass(tree, v);
        }

        private boolean isConstant(Tree field) {
            Element e = trees.getElement(trees.getPath(unit, field));
            return e.getModifiers().contains(Modifier.FINAL) && ((VariableElement) e).getConstantValue() != null;
        }

        private void typed(Tree tree, TypeMirror type) {
            String name = type.toString();
            Check.that("a type that the class has need of in line "
                + line(trees.getSourcePositions().getStartPosition(unit, tree)) + ", not " + name,
                TYPES.contains(name) || name.matches("ChainLetters\\.\\w+"));
        }

        @Override
        public Void visitVariable(VariableTree tree, Void v) {
            typed(tree, here().asType());
            return super.visitVariable(tree, v);
        }

        @Override
        public Void visitTypeCast(TypeCastTree tree, Void v) {
            Check.that("no cast but to a number: " + tree, CASTS.contains(tree.getType().toString()));
            return super.visitTypeCast(tree, v);
        }

        @Override
        public Void visitMethod(MethodTree tree, Void v) {
            inside = here();
            if (tree.getReturnType() != null) typed(tree, ((ExecutableElement) inside).getReturnType());
            Set<Modifier> flags = tree.getModifiers().getFlags();
            if (flags.contains(Modifier.PRIVATE)) hiddenNames.add(tree.getName().toString());
            if (flags.contains(Modifier.PUBLIC)) faceNames.add(tree.getName().toString());
            calls.put(inside, new java.util.LinkedHashSet<>());
            SourcePositions at = trees.getSourcePositions();
            long lines = line(at.getEndPosition(unit, tree)) - line(at.getStartPosition(unit, tree)) + 1;
            Check.that(tree.getName() + " has " + lines + " lines", lines <= 60);
            Check.that(tree.getName() + " has few parameters", tree.getParameters().size() <= 7);
            return super.visitMethod(tree, v);
        }

        private void called(Element e) {
            if (!(e instanceof ExecutableElement)) return;
            String name = e.getEnclosingElement() + "." + e.getSimpleName();
            if (!name.startsWith("ChainLetters")) Check.that("the library has " + name, LIBRARY.contains(name));
            else if (inside != null) calls.get(inside).add(e);
        }

        @Override
        public Void visitMethodInvocation(MethodInvocationTree tree, Void v) {
            called(here());
            if (inside.getKind() == ElementKind.CONSTRUCTOR) handsOnNothing(tree, tree.getArguments());
            return super.visitMethodInvocation(tree, v);
        }

        @Override
        public Void visitNewClass(NewClassTree tree, Void v) {
            called(here());
            madeIn("an object");
            handsOnNothing(tree, tree.getArguments());
            return super.visitNewClass(tree, v);
        }

        @Override
        public Void visitNewArray(NewArrayTree tree, Void v) {
            madeIn("an array");
            return super.visitNewArray(tree, v);
        }

        /** Neither the object itself nor one of its parts: numbers alone. */
        private void handsOnNothing(Tree call, List<? extends ExpressionTree> arguments) {
            for (ExpressionTree argument : arguments) {
                TypeMirror type = trees.getTypeMirror(trees.getPath(unit, argument));
                Check.that("a constructor hands out nothing of its object: " + call, type.getKind().isPrimitive());
            }
        }

        private void madeIn(String what) {
            Check.that(what + " is made in a constructor only",
                inside != null && inside.getKind() == ElementKind.CONSTRUCTOR);
        }

        /** Each loop's end is seen from its own lines: a for with a test and a step. */
        @Override
        public Void visitForLoop(ForLoopTree tree, Void v) {
            Check.that("a for has a test and a step", tree.getCondition() != null && tree.getUpdate().size() == 1);
            return super.visitForLoop(tree, v);
        }

        @Override
        public Void visitWhileLoop(WhileLoopTree tree, Void v) {
            Check.that("no while in line " + line(trees.getSourcePositions().getStartPosition(unit, tree)), false);
            return super.visitWhileLoop(tree, v);
        }

        @Override
        public Void visitDoWhileLoop(DoWhileLoopTree tree, Void v) {
            Check.that("no do in line " + line(trees.getSourcePositions().getStartPosition(unit, tree)), false);
            return super.visitDoWhileLoop(tree, v);
        }

        private int depth(Element e, List<Element> open) {
            if (depths.containsKey(e)) return depths.get(e);
            Check.that("no recursion: " + open + " " + e, !open.contains(e));
            if (open.contains(e)) return 0;
            open.add(e);
            int most = 0;
            for (Element next : calls.getOrDefault(e, Set.of())) most = Math.max(most, depth(next, open));
            open.remove(open.size() - 1);
            depths.put(e, most + 1);
            return most + 1;
        }

        void end() {
            Check.that(classes + " classes", classes <= 12);
            hiddenNames.retainAll(faceNames);
            Check.that("no private method in any class bears a public name: " + hiddenNames, hiddenNames.isEmpty());
            Set<String> deep = new TreeSet<>();
            for (Element e : calls.keySet()) {
                if (depth(e, new ArrayList<>()) > 8) deep.add(e.toString());
            }
            Check.that("calls go at most eight deep, but " + deep, deep.isEmpty());
        }
    }
}
