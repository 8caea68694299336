import com.sun.source.tree.AssertTree;
import com.sun.source.tree.BinaryTree;
import com.sun.source.tree.CatchTree;
import com.sun.source.tree.ClassTree;
import com.sun.source.tree.CompilationUnitTree;
import com.sun.source.tree.ImportTree;
import com.sun.source.tree.LambdaExpressionTree;
import com.sun.source.tree.MemberReferenceTree;
import com.sun.source.tree.MethodInvocationTree;
import com.sun.source.tree.MethodTree;
import com.sun.source.tree.NewArrayTree;
import com.sun.source.tree.NewClassTree;
import com.sun.source.tree.SynchronizedTree;
import com.sun.source.tree.ThrowTree;
import com.sun.source.tree.Tree;
import com.sun.source.tree.TryTree;
import com.sun.source.tree.VariableTree;
import com.sun.source.util.JavacTask;
import com.sun.source.util.TreePath;
import com.sun.source.util.TreePathScanner;
import com.sun.source.util.Trees;
import java.io.File;
import java.lang.reflect.Method;
import java.lang.reflect.Modifier;
import java.util.ArrayList;
import java.util.HashMap;
import java.util.HashSet;
import java.util.LinkedHashMap;
import java.util.List;
import java.util.Map;
import java.util.Set;
import java.util.TreeSet;
import javax.lang.model.element.Element;
import javax.lang.model.element.Name;
import javax.lang.model.element.VariableElement;
import javax.tools.JavaCompiler;
import javax.tools.StandardJavaFileManager;
import javax.tools.ToolProvider;

/** The public face, and what LANGUAGE.md lets a program see of the rules about its text. */
public final class RulesTest {
    private static final String[] FACE = {"int feed(int,int,int,int,int)", "boolean end(int)",
        "int land()", "int fault(int)", "int has(int)", "int letter(int,int,int)",
        "int ounces(int)", "int title(int,int)", "int person(int,int)", "int loose(int,int)",
        "int lead(int)", "int gain(int,int)", "int shed(int,int)", "boolean steal(int,int,int)",
        "boolean trade(int,int,int,int)", "int lend(int,int,int)", "boolean giveBack(int)",
        "int loan(int,int)", "int drown(int)", "int melt(int,int)", "int heir(int,int)",
        "int years(int)", "int feast()", "boolean seed(int)", "int signed(int,int)",
        "int span(int,int)", "int moved(int,int)", "int share(int,int,int)",
        "int bullets(int,int)", "int row(int,int,int)", "int goings(int,int)",
        "int common(int,int)", "int image()", "int octet(int)", "boolean on()", "int status(int)"};

    private static final int EIGHT_DEEP = 8;
    /** Rule 4, of it what the class may want; none of them goes on to a method of the class. */
    private static final Set<String> LIBRARY = Set.of("java.lang.String.length",
        "java.lang.String.charAt", "java.lang.Math.max", "java.lang.Math.min",
        "java.lang.Math.floorDiv", "java.lang.Math.floorMod", "java.lang.Integer.bitCount",
        "java.lang.System.arraycopy", "java.util.Arrays.fill");
    private static final Set<String> TYPES = Set.of("int", "long", "boolean", "char", "int[]",
        "java.lang.String");

    public static void main(String[] args) throws Exception {
        face();
        File source = new File(args.length > 0 ? args[0] : ".", "src/main/java/LeadNames.java");
        JavaCompiler compiler = ToolProvider.getSystemJavaCompiler();
        try (StandardJavaFileManager files = compiler.getStandardFileManager(null, null, null)) {
            JavacTask task = (JavacTask) compiler.getTask(null, files, null, List.of(), null,
                    files.getJavaFileObjects(source));
            Iterable<? extends CompilationUnitTree> units = task.parse();
            // What a name means is known behind this alone.
            task.analyze();
            for (CompilationUnitTree unit : units) {
                Rules rules = new Rules(unit, Trees.instance(task));
                rules.scan(unit, null);
                rules.calls.goAtMost(EIGHT_DEEP);
            }
        }
        Check.finish();
    }

    private static void face() {
        Set<String> due = new TreeSet<>(List.of(FACE));
        Set<String> got = new TreeSet<>();
        for (Method method : LeadNames.class.getDeclaredMethods()) {
            if (!Modifier.isPrivate(method.getModifiers())) {
                String text = method.toString();
                got.add(text.replace("public ", "").replace("LeadNames.", ""));
            }
        }
        due.forEach(text -> rule("in the face: " + text, got.contains(text)));
        got.forEach(text -> rule("not in the face: " + text, due.contains(text)));
        rule("final", Modifier.isFinal(LeadNames.class.getModifiers()));
        rule("one public constructor", LeadNames.class.getConstructors().length == 1
                && LeadNames.class.getDeclaredConstructors().length == 1);
        rule("one public constant", LeadNames.class.getFields().length == 1);
        Check.same("NONE", LeadNames.NONE, -1);
    }

    private static void rule(String what, boolean holds) {
        Check.same(what, holds, true);
    }

    private static final class Rules extends TreePathScanner<Void, Void> {
        private final CompilationUnitTree unit;
        private final Trees trees;
        private final Set<String> faceNames = new HashSet<>();
        private final List<Name> methods = new ArrayList<>();
        private final Calls calls = new Calls();
        private String caller = "";
        private int classes;

        Rules(CompilationUnitTree unit, Trees trees) {
            this.unit = unit;
            this.trees = trees;
            for (String text : FACE) {
                faceNames.add(text.substring(text.indexOf(' ') + 1, text.indexOf('(')));
            }
        }

        private long line(long position) {
            return unit.getLineMap().getLineNumber(position);
        }

        private long start(Tree tree) {
            return line(trees.getSourcePositions().getStartPosition(unit, tree));
        }

        private void never(Tree tree) {
            rule("line " + start(tree) + " is outside the language", false);
        }

        @Override
        public Void visitImport(ImportTree tree, Void none) {
            rule(tree.toString(), tree.getQualifiedIdentifier().toString().equals(
                    "java.util.Arrays"));
            return super.visitImport(tree, none);
        }

        @Override
        public Void visitClass(ClassTree tree, Void none) {
            classes++;
            rule("twelve classes", classes <= 12);
            Set<String> flags = new HashSet<>();
            tree.getModifiers().getFlags().forEach(flag -> flags.add(flag.toString()));
            rule(tree.getSimpleName() + " is a class inside", classes == 1
                    || flags.contains("static") && !flags.contains("public")
                            && !flags.contains("protected"));
            int fields = 0;
            for (Tree member : tree.getMembers()) {
                if (member instanceof VariableTree field
                        && !field.getModifiers().getFlags().toString().contains("static")) {
                    fields++;
                }
            }
            rule(tree.getSimpleName() + " has " + fields + " fields", fields <= 20);
            return super.visitClass(tree, none);
        }

        @Override
        public Void visitMethod(MethodTree tree, Void none) {
            String name = tree.getName().toString();
            boolean isFace = tree.getModifiers().getFlags().toString().contains("public");
            rule(name + " is of the face", isFace || !faceNames.contains(name));
            rule(name + " takes too many", tree.getParameters().size() <= 7);
            long end = line(trees.getSourcePositions().getEndPosition(unit, tree));
            rule(name + " is too long", end - start(tree) <= 60);
            methods.add(tree.getName());
            caller = named(trees.getElement(getCurrentPath()));
            calls.begin(caller);
            Void answer = super.visitMethod(tree, none);
            methods.remove(methods.size() - 1);
            return answer;
        }

        private static String named(Element method) {
            return method.getEnclosingElement() + "." + method.getSimpleName();
        }

        @Override
        public Void visitMethodInvocation(MethodInvocationTree tree, Void none) {
            String name = named(trees.getElement(getCurrentPath()));
            boolean isOwn = name.startsWith("LeadNames.");
            // The compiler puts super() ahead of each constructor.
            if (!name.equals("java.lang.Object.<init>")) {
                rule(name + " is in the library", isOwn || LIBRARY.contains(name));
                calls.add(caller, name);
            }
            return super.visitMethodInvocation(tree, none);
        }

        @Override
        public Void visitVariable(VariableTree tree, Void none) {
            Element variable = trees.getElement(getCurrentPath());
            String type = variable.asType().toString();
            rule("line " + start(tree) + " has a " + type,
                    TYPES.contains(type) || type.startsWith("LeadNames."));
            String flags = tree.getModifiers().getFlags().toString();
            if (flags.contains("static")) {
                rule("line " + start(tree) + " is a constant", flags.contains("final")
                        && ((VariableElement) variable)
                                .getConstantValue() != null);
            }
            return super.visitVariable(tree, none);
        }

        @Override
        public Void visitBinary(BinaryTree tree, Void none) {
            for (Tree side : List.of(tree.getLeftOperand(), tree.getRightOperand())) {
                String type = String.valueOf(trees.getTypeMirror(
                        new TreePath(getCurrentPath(), side)));
                rule("line " + start(tree) + " joins texts by a sign",
                        !type.startsWith("java.lang."));
            }
            return super.visitBinary(tree, none);
        }

        private void made(Tree tree) {
            boolean isInConstructor = !methods.isEmpty()
                    && methods.get(methods.size() - 1).contentEquals("<init>");
            rule("line " + start(tree) + " makes something in a call", isInConstructor);
        }

        @Override
        public Void visitNewClass(NewClassTree tree, Void none) {
            rule("no anonymous class", tree.getClassBody() == null);
            made(tree);
            calls.add(caller, named(trees.getElement(getCurrentPath())));
            return super.visitNewClass(tree, none);
        }

        @Override
        public Void visitNewArray(NewArrayTree tree, Void none) {
            made(tree);
            return super.visitNewArray(tree, none);
        }

        @Override
        public Void visitThrow(ThrowTree tree, Void none) {
            never(tree);
            return null;
        }

        @Override
        public Void visitTry(TryTree tree, Void none) {
            never(tree);
            return null;
        }

        @Override
        public Void visitCatch(CatchTree tree, Void none) {
            never(tree);
            return null;
        }

        @Override
        public Void visitAssert(AssertTree tree, Void none) {
            never(tree);
            return null;
        }

        @Override
        public Void visitSynchronized(SynchronizedTree tree, Void none) {
            never(tree);
            return null;
        }

        @Override
        public Void visitLambdaExpression(LambdaExpressionTree tree, Void none) {
            never(tree);
            return null;
        }

        @Override
        public Void visitMemberReference(MemberReferenceTree tree, Void none) {
            never(tree);
            return null;
        }
    }

    /** Which method calls which; those that call one another in a ring count as one. */
    private static final class Calls {
        private final Map<String, Set<String>> callees = new LinkedHashMap<>();
        private final Map<String, Set<String>> reached = new HashMap<>();

        void begin(String method) {
            callees.computeIfAbsent(method, key -> new TreeSet<>());
        }

        void add(String caller, String callee) {
            begin(caller);
            begin(callee);
            callees.get(caller).add(callee);
        }

        void goAtMost(int most) {
            for (String method : callees.keySet()) {
                reach(method, reached.computeIfAbsent(method, key -> new HashSet<>()));
            }
            for (String method : callees.keySet()) {
                int depth = depth(method, new HashMap<>());
                rule(method + " goes " + depth + " deep", depth <= most);
            }
        }

        private void reach(String method, Set<String> seen) {
            for (String callee : callees.get(method)) {
                if (seen.add(callee)) {
                    reach(callee, seen);
                }
            }
        }

        private boolean isRing(String one, String other) {
            return one.equals(other)
                    || reached.get(one).contains(other) && reached.get(other).contains(one);
        }

        /** What a method's ring calls outside of itself. */
        private Set<String> leaving(String method) {
            Set<String> outside = new TreeSet<>();
            for (String member : callees.keySet()) {
                if (isRing(method, member)) {
                    outside.addAll(callees.get(member));
                }
            }
            outside.removeIf(callee -> isRing(method, callee));
            return outside;
        }

        private int depth(String method, Map<String, Integer> known) {
            if (known.containsKey(method)) {
                return known.get(method);
            }
            int below = 0;
            for (String callee : leaving(method)) {
                below = Math.max(below, depth(callee, known));
            }
            known.put(method, below + 1);
            return below + 1;
        }
    }
}
