import com.sun.source.tree.AssertTree;
import com.sun.source.tree.BinaryTree;
import com.sun.source.tree.ClassTree;
import com.sun.source.tree.CompilationUnitTree;
import com.sun.source.tree.DoWhileLoopTree;
import com.sun.source.tree.ForLoopTree;
import com.sun.source.tree.ImportTree;
import com.sun.source.tree.LambdaExpressionTree;
import com.sun.source.tree.LiteralTree;
import com.sun.source.tree.MemberReferenceTree;
import com.sun.source.tree.MethodInvocationTree;
import com.sun.source.tree.MethodTree;
import com.sun.source.tree.NewArrayTree;
import com.sun.source.tree.NewClassTree;
import com.sun.source.tree.SynchronizedTree;
import com.sun.source.tree.ThrowTree;
import com.sun.source.tree.Tree;
import com.sun.source.tree.TryTree;
import com.sun.source.tree.TypeCastTree;
import com.sun.source.tree.VariableTree;
import com.sun.source.tree.WhileLoopTree;
import com.sun.source.util.JavacTask;
import com.sun.source.util.SourcePositions;
import com.sun.source.util.TreePath;
import com.sun.source.util.TreePathScanner;
import com.sun.source.util.Trees;
import java.io.IOException;
import java.lang.reflect.Constructor;
import java.lang.reflect.Field;
import java.lang.reflect.Method;
import java.lang.reflect.Modifier;
import java.nio.file.Files;
import java.nio.file.Path;
import java.util.ArrayList;
import java.util.Arrays;
import java.util.List;
import java.util.Map;
import java.util.Set;
import java.util.TreeMap;
import java.util.TreeSet;
import javax.lang.model.element.Element;
import javax.lang.model.element.ElementKind;
import javax.lang.model.element.ExecutableElement;
import javax.tools.JavaCompiler;
import javax.tools.StandardJavaFileManager;
import javax.tools.ToolProvider;

/** Those rules of LANGUAGE.md that a look at the source's tree and at the class can tell; the numbers are the rules'. */
public final class LanguageTest {
    private static final Path SOURCE = Path.of("src/main/java/LowHeads.java");
    private static final String FACE = "feed(int,long) house() fault() told(int) room(int,int,int) person(int,int) friends(int,int) "
        + "law(int) put(int,int,int) leave(int) bend(int,int) first(int,int) bow(int) year(int) come(int,int,int) "
        + "party(int,int,int) feast(int,int) cuts(int,int) till() seen(int,int) write(int,int,int) tear() judge(int) "
        + "drift(int) empty() seed(int) keep(int) goBack(int)";
    private static final Set<String> LIBRARY = Set.of("String.length", "String.charAt", "Math.max", "Math.min", "Integer.bitCount",
        "System.arraycopy");
    private static final Set<String> TYPES = Set.of("int", "long", "short", "byte", "char", "boolean", "void", "String", "int[]",
        "byte[]", "boolean[]", "Scene[]", "House", "Scene", "Evening", "Reader", "PartySearch", "FeastSearch", "Book");
    /** These call themselves: each level is one person more, of six at most. */
    private static final Set<String> RECURSIVE = Set.of("PartySearch.placeFrom", "FeastSearch.dealFrom");

    private LanguageTest() {
    }

    public static void main(String[] args) throws IOException {
        face();
        nestedClasses();
        signs(Files.readString(SOURCE));
        JavaCompiler compiler = ToolProvider.getSystemJavaCompiler();
        try (StandardJavaFileManager files = compiler.getStandardFileManager(null, null, null)) {
            JavacTask task = (JavacTask) compiler.getTask(null, files, null, List.of("-proc:none"), null, files.getJavaFileObjects(SOURCE));
            CompilationUnitTree unit = task.parse().iterator().next();
            task.analyze();
            Look look = new Look(Trees.instance(task), unit);
            look.scan(unit, null);
            look.depths();
        }
        Check.end();
    }

    private static void never(String what, boolean is) {
        Check.due(what, is ? 1 : 0, 0);
    }

    private static void face() {
        TreeSet<String> open = new TreeSet<>();
        TreeSet<String> hidden = new TreeSet<>();
        for (Method m : LowHeads.class.getDeclaredMethods()) {
            if (Modifier.isPrivate(m.getModifiers())) {
                hidden.add(m.getName());
                continue;
            }
            List<String> types = new ArrayList<>();
            for (Class<?> type : m.getParameterTypes()) {
                types.add(type.getName());
            }
            Check.same("rule 1, what " + m.getName() + " answers", m.getReturnType() + " " + m.getModifiers(), "int " + Modifier.PUBLIC);
            open.add(m.getName() + "(" + String.join(",", types) + ")");
        }
        Check.same("rule 1, the methods", open.toString(), new TreeSet<>(Arrays.asList(FACE.split(" "))).toString());
        for (String call : FACE.split(" ")) {
            never("rule 1, private " + call, hidden.contains(call.substring(0, call.indexOf('('))));
        }
        TreeSet<String> fields = new TreeSet<>();
        int own = 0;
        for (Field f : LowHeads.class.getDeclaredFields()) {
            boolean constant = Modifier.isStatic(f.getModifiers());
            own += constant ? 0 : 1;
            if (!Modifier.isPrivate(f.getModifiers())) {
                fields.add(f.getName());
                Check.due("rule 1, " + f.getName(), f.getModifiers(), Modifier.PUBLIC | Modifier.STATIC | Modifier.FINAL);
            }
            never("rule 5, static " + f.getName(), constant && !Modifier.isFinal(f.getModifiers()));
        }
        never("rule 11, at most twenty fields", own > 20);
        Check.same("rule 1, the constants", fields.toString(), "[FULL, NONE, NOT, OUTSIDE, UNKNOWN]");
        Constructor<?>[] made = LowHeads.class.getDeclaredConstructors();
        Check.due("rule 1, one constructor", made.length, 1);
        Check.due("rule 1, without parameters", made[0].getParameterCount(), 0);
        Check.due("rule 1, public", made[0].getModifiers(), Modifier.PUBLIC);
        Check.due("rule 1, public and final", LowHeads.class.getModifiers(), Modifier.FINAL | Modifier.PUBLIC);
    }

    private static void nestedClasses() {
        Class<?>[] inside = LowHeads.class.getDeclaredClasses();
        never("rule 11, at most twelve classes", inside.length > 11);
        for (Class<?> c : inside) {
            Check.due("rule 2, " + c.getName(), c.getModifiers(), Modifier.PRIVATE | Modifier.STATIC | Modifier.FINAL);
            int fields = 0;
            for (Field f : c.getDeclaredFields()) {
                boolean constant = Modifier.isStatic(f.getModifiers());
                fields += constant ? 0 : 1;
                never("rule 5, static " + f.getName(), constant && !(Modifier.isFinal(f.getModifiers()) && f.getType() == int.class));
            }
            never("rule 11, at most twenty fields in " + c.getName(), fields > 20);
            for (Method m : c.getDeclaredMethods()) {
                never("rule 1, the name " + m.getName(), (" " + FACE).contains(" " + m.getName() + "("));
            }
        }
    }

    private static void signs(String source) {
        for (int i = 0; i < source.length(); i++) {
            never("rule 4, sign " + i, source.charAt(i) > 126);
        }
    }

    /** Goes through the whole tree, and notes who calls whom. */
    private static final class Look extends TreePathScanner<Void, Void> {
        private final Trees trees;
        private final CompilationUnitTree unit;
        private final Map<String, Set<String>> calls = new TreeMap<>();
        private String method = "";
        private boolean making = true;

        Look(Trees trees, CompilationUnitTree unit) {
            this.trees = trees;
            this.unit = unit;
        }

        private long line(Tree tree) {
            return unit.getLineMap().getLineNumber(trees.getSourcePositions().getStartPosition(unit, tree));
        }

        private void refuse(String rule, Tree tree) {
            Check.same("rule " + rule + ", line " + line(tree), tree.getKind().toString(), "not there");
        }

        @Override
        public Void visitImport(ImportTree tree, Void none) {
            refuse("4", tree);
            return null;
        }

        @Override
        public Void visitMethod(MethodTree tree, Void none) {
            SourcePositions at = trees.getSourcePositions();
            long lines = unit.getLineMap().getLineNumber(at.getEndPosition(unit, tree)) - line(tree) + 1;
            never("rule 11, lines of " + tree.getName(), lines > 60);
            never("rule 11, parameters of " + tree.getName(), tree.getParameters().size() > 7);
            method = nameOf(trees.getElement(getCurrentPath()));
            making = tree.getName().contentEquals("<init>");
            calls.putIfAbsent(method, new TreeSet<>());
            super.visitMethod(tree, none);
            making = true;
            return null;
        }

        @Override
        public Void visitMethodInvocation(MethodInvocationTree tree, Void none) {
            Element called = trees.getElement(getCurrentPath());
            if (called != null && called.getKind() == ElementKind.METHOD) {
                boolean own = called.getEnclosingElement().toString().startsWith("LowHeads");
                never("rule 4, line " + line(tree) + ", " + nameOf(called), !own && !LIBRARY.contains(nameOf(called)));
                if (own) {
                    calls.get(method).add(nameOf(called));
                    never("rule 12, a constructor calls " + nameOf(called), method.endsWith("<init>"));
                }
            }
            return super.visitMethodInvocation(tree, none);
        }

        private static String nameOf(Element element) {
            String name = element instanceof ExecutableElement ? element.getSimpleName().toString() : "";
            return element.getEnclosingElement().getSimpleName() + "." + name;
        }

        @Override
        public Void visitVariable(VariableTree tree, Void none) {
            never("rule 3, line " + line(tree) + ", type " + tree.getType(), !TYPES.contains(String.valueOf(tree.getType())));
            return super.visitVariable(tree, none);
        }

        /** Stricter than the rule: no call makes an object, all are made with the object itself. */
        @Override
        public Void visitNewClass(NewClassTree tree, Void none) {
            never("rule 2, line " + line(tree) + ", a class without a name", tree.getClassBody() != null);
            never("rule 12, line " + line(tree) + ", " + tree, !making);
            return super.visitNewClass(tree, none);
        }

        @Override
        public Void visitNewArray(NewArrayTree tree, Void none) {
            never("rule 12, line " + line(tree) + ", " + tree, !making);
            return super.visitNewArray(tree, none);
        }

        @Override
        public Void visitTypeCast(TypeCastTree tree, Void none) {
            never("rule 6, line " + line(tree) + ", " + tree, !Set.of("int", "byte", "char", "long").contains(tree.getType().toString()));
            return super.visitTypeCast(tree, none);
        }

        @Override
        public Void visitLiteral(LiteralTree tree, Void none) {
            if (tree.getValue() instanceof String text) {
                for (char sign : text.toCharArray()) {
                    never("rule 4, line " + line(tree) + ", sign " + (int) sign, sign < 1 || sign > 127);
                }
            }
            return super.visitLiteral(tree, none);
        }

        @Override
        public Void visitBinary(BinaryTree tree, Void none) {
            for (Tree side : List.of(tree.getLeftOperand(), tree.getRightOperand())) {
                String type = String.valueOf(trees.getTypeMirror(new TreePath(getCurrentPath(), side)));
                never("rule 6 or 10, line " + line(tree) + ", " + tree, type.equals("java.lang.String") || type.equals("java.lang.Integer"));
                never("rule 3, line " + line(tree) + ", " + tree, type.equals("double") || type.equals("float"));
            }
            return super.visitBinary(tree, none);
        }

        @Override
        public Void visitForLoop(ForLoopTree tree, Void none) {
            String bound = String.valueOf(tree.getCondition());
            never("rule 9, line " + line(tree) + ", " + bound, !bound.contains("<") && !bound.contains(">"));
            Check.due("rule 9, line " + line(tree) + ", steps", tree.getUpdate().size(), 1);
            return super.visitForLoop(tree, none);
        }

        /** A while may go on to the end of the text alone, a byte a time. */
        @Override
        public Void visitWhileLoop(WhileLoopTree tree, Void none) {
            never("rule 9, line " + line(tree), !tree.getCondition().toString().startsWith("(at < length && "));
            never("rule 9, line " + line(tree) + ", a step", !tree.getStatement().toString().contains("at++;"));
            return super.visitWhileLoop(tree, none);
        }

        @Override
        public Void visitDoWhileLoop(DoWhileLoopTree tree, Void none) {
            refuse("9", tree);
            return null;
        }

        @Override
        public Void visitClass(ClassTree tree, Void none) {
            never("rule 2, line " + line(tree), tree.getKind() != Tree.Kind.CLASS);
            String of = method;
            super.visitClass(tree, none);
            method = of;
            return null;
        }

        @Override
        public Void visitLambdaExpression(LambdaExpressionTree tree, Void none) {
            refuse("2", tree);
            return null;
        }

        @Override
        public Void visitMemberReference(MemberReferenceTree tree, Void none) {
            refuse("2", tree);
            return null;
        }

        @Override
        public Void visitThrow(ThrowTree tree, Void none) {
            refuse("6", tree);
            return null;
        }

        @Override
        public Void visitTry(TryTree tree, Void none) {
            refuse("6", tree);
            return null;
        }

        @Override
        public Void visitSynchronized(SynchronizedTree tree, Void none) {
            refuse("6", tree);
            return null;
        }

        @Override
        public Void visitAssert(AssertTree tree, Void none) {
            refuse("6", tree);
            return null;
        }

        /** Calls that are no recursion go at most eight deep; only those named above come back to themselves. */
        void depths() {
            for (String name : calls.keySet()) {
                never("rule 11, depth of " + name, depth(name, new ArrayList<>()) > 8);
                never("rule 8, " + name, calls.get(name).contains(name) != RECURSIVE.contains(name));
            }
        }

        private int depth(String name, List<String> above) {
            if (above.contains(name)) {
                never("rule 8, a round through " + name, !above.get(above.size() - 1).equals(name));
                return 0;
            }
            above.add(name);
            int most = 0;
            for (String next : calls.getOrDefault(name, Set.of())) {
                most = Math.max(most, depth(next, above));
            }
            above.remove(above.size() - 1);
            return most + 1;
        }
    }
}
