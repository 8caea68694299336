import com.sun.source.tree.AssertTree;
import com.sun.source.tree.CatchTree;
import com.sun.source.tree.ClassTree;
import com.sun.source.tree.CompilationUnitTree;
import com.sun.source.tree.ImportTree;
import com.sun.source.tree.LambdaExpressionTree;
import com.sun.source.tree.MemberReferenceTree;
import com.sun.source.tree.MethodTree;
import com.sun.source.tree.NewArrayTree;
import com.sun.source.tree.NewClassTree;
import com.sun.source.tree.SynchronizedTree;
import com.sun.source.tree.ThrowTree;
import com.sun.source.tree.Tree;
import com.sun.source.tree.TryTree;
import com.sun.source.tree.VariableTree;
import com.sun.source.util.JavacTask;
import com.sun.source.util.TreePathScanner;
import com.sun.source.util.Trees;
import java.io.File;
import java.lang.reflect.Method;
import java.lang.reflect.Modifier;
import java.util.ArrayList;
import java.util.HashSet;
import java.util.List;
import java.util.Set;
import java.util.TreeSet;
import javax.lang.model.element.Name;
import javax.tools.JavaCompiler;
import javax.tools.StandardJavaFileManager;
import javax.tools.ToolProvider;

/** The public face, and what LANGUAGE.md lets a program see of the rules about its text. */
public final class RulesTest {
    private static final String[] FACE = {"int feed(int,int,int,int,int)", "boolean end(int)",
        "int land()", "int fault(int)", "int has(int)", "int letter(int,int,int)",
        "int ounces(int)", "int title(int,int)", "int person(int,int)", "int loose(int,int)",
        "int lead(int)", "int gain(int,int)", "int shed(int,int)", "boolean steal(int,int,int)",
        "boolean trade(int,int,int,int)", "int lend(int,int,int)", "boolean giveBack(int)",
        "int loan(int,int)", "int drown(int)", "int melt(int,int)", "int heir(int,int)",
        "int years(int)", "int feast()", "boolean seed(int)", "int signed(int,int)",
        "int span(int,int)", "int moved(int,int)", "int share(int,int,int)",
        "int bullets(int,int)", "int row(int,int,int)", "int goings(int,int)",
        "int common(int,int)", "int image()", "int octet(int)", "boolean on()", "int status(int)"};

    public static void main(String[] args) throws Exception {
        face();
        File source = new File(args.length > 0 ? args[0] : ".", "src/main/java/LeadNames.java");
        JavaCompiler compiler = ToolProvider.getSystemJavaCompiler();
        try (StandardJavaFileManager files = compiler.getStandardFileManager(null, null, null)) {
            JavacTask task = (JavacTask) compiler.getTask(null, files, null, List.of(), null,
                    files.getJavaFileObjects(source));
            for (CompilationUnitTree unit : task.parse()) {
                new Rules(unit, Trees.instance(task)).scan(unit, null);
            }
        }
        Check.finish();
    }

    private static void face() {
        Set<String> due = new TreeSet<>(List.of(FACE));
        Set<String> got = new TreeSet<>();
        for (Method method : LeadNames.class.getDeclaredMethods()) {
            if (!Modifier.isPrivate(method.getModifiers())) {
                String text = method.toString();
                got.add(text.replace("public ", "").replace("LeadNames.", ""));
            }
        }
        due.forEach(text -> rule("in the face: " + text, got.contains(text)));
        got.forEach(text -> rule("not in the face: " + text, due.contains(text)));
        rule("final", Modifier.isFinal(LeadNames.class.getModifiers()));
        rule("one public constructor", LeadNames.class.getConstructors().length == 1
                && LeadNames.class.getDeclaredConstructors().length == 1);
        rule("one public constant", LeadNames.class.getFields().length == 1);
        Check.same("NONE", LeadNames.NONE, -1);
    }

    private static void rule(String what, boolean holds) {
        Check.same(what, holds, true);
    }

    private static final class Rules extends TreePathScanner<Void, Void> {
        private final CompilationUnitTree unit;
        private final Trees trees;
        private final Set<String> faceNames = new HashSet<>();
        private final List<Name> methods = new ArrayList<>();
        private int classes;

        Rules(CompilationUnitTree unit, Trees trees) {
            this.unit = unit;
            this.trees = trees;
            for (String text : FACE) {
                faceNames.add(text.substring(text.indexOf(' ') + 1, text.indexOf('(')));
            }
        }

        private long line(long position) {
            return unit.getLineMap().getLineNumber(position);
        }

        private long start(Tree tree) {
            return line(trees.getSourcePositions().getStartPosition(unit, tree));
        }

        private void never(Tree tree) {
            rule("line " + start(tree) + " is outside the language", false);
        }

        @Override
        public Void visitImport(ImportTree tree, Void none) {
            rule(tree.toString(), tree.getQualifiedIdentifier().toString().equals(
                    "java.util.Arrays"));
            return super.visitImport(tree, none);
        }

        @Override
        public Void visitClass(ClassTree tree, Void none) {
            classes++;
            rule("twelve classes", classes <= 12);
            int fields = 0;
            for (Tree member : tree.getMembers()) {
                if (member instanceof VariableTree field
                        && !field.getModifiers().getFlags().toString().contains("static")) {
                    fields++;
                }
            }
            rule(tree.getSimpleName() + " has " + fields + " fields", fields <= 20);
            return super.visitClass(tree, none);
        }

        @Override
        public Void visitMethod(MethodTree tree, Void none) {
            String name = tree.getName().toString();
            boolean isFace = tree.getModifiers().getFlags().toString().contains("public");
            rule(name + " is of the face", isFace || !faceNames.contains(name));
            rule(name + " takes too many", tree.getParameters().size() <= 7);
            long end = line(trees.getSourcePositions().getEndPosition(unit, tree));
            rule(name + " is too long", end - start(tree) <= 60);
            methods.add(tree.getName());
            Void answer = super.visitMethod(tree, none);
            methods.remove(methods.size() - 1);
            return answer;
        }

        private void made(Tree tree) {
            boolean isInConstructor = !methods.isEmpty()
                    && methods.get(methods.size() - 1).contentEquals("<init>");
            rule("line " + start(tree) + " makes something in a call", isInConstructor);
        }

        @Override
        public Void visitNewClass(NewClassTree tree, Void none) {
            rule("no anonymous class", tree.getClassBody() == null);
            made(tree);
            return super.visitNewClass(tree, none);
        }

        @Override
        public Void visitNewArray(NewArrayTree tree, Void none) {
            made(tree);
            return super.visitNewArray(tree, none);
        }

        @Override
        public Void visitThrow(ThrowTree tree, Void none) {
            never(tree);
            return null;
        }

        @Override
        public Void visitTry(TryTree tree, Void none) {
            never(tree);
            return null;
        }

        @Override
        public Void visitCatch(CatchTree tree, Void none) {
            never(tree);
            return null;
        }

        @Override
        public Void visitAssert(AssertTree tree, Void none) {
            never(tree);
            return null;
        }

        @Override
        public Void visitSynchronized(SynchronizedTree tree, Void none) {
            never(tree);
            return null;
        }

        @Override
        public Void visitLambdaExpression(LambdaExpressionTree tree, Void none) {
            never(tree);
            return null;
        }

        @Override
        public Void visitMemberReference(MemberReferenceTree tree, Void none) {
            never(tree);
            return null;
        }
    }
}
