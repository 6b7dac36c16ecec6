import com.sun.source.tree.AssertTree;
import com.sun.source.tree.BinaryTree;
import com.sun.source.tree.BlockTree;
import com.sun.source.tree.ClassTree;
import com.sun.source.tree.CompilationUnitTree;
import com.sun.source.tree.EnhancedForLoopTree;
import com.sun.source.tree.ForLoopTree;
import com.sun.source.tree.ImportTree;
import com.sun.source.tree.LambdaExpressionTree;
import com.sun.source.tree.LiteralTree;
import com.sun.source.tree.MemberReferenceTree;
import com.sun.source.tree.MethodInvocationTree;
import com.sun.source.tree.MethodTree;
import com.sun.source.tree.NewArrayTree;
import com.sun.source.tree.NewClassTree;
import com.sun.source.tree.PrimitiveTypeTree;
import com.sun.source.tree.SwitchExpressionTree;
import com.sun.source.tree.SynchronizedTree;
import com.sun.source.tree.ThrowTree;
import com.sun.source.tree.Tree;
import com.sun.source.tree.TryTree;
import com.sun.source.tree.TypeCastTree;
import com.sun.source.tree.VariableTree;
import com.sun.source.tree.WhileLoopTree;
import com.sun.source.util.JavacTask;
import com.sun.source.util.TreePath;
import com.sun.source.util.TreePathScanner;
import com.sun.source.util.Trees;
import java.lang.reflect.Constructor;
import java.lang.reflect.Field;
import java.lang.reflect.Method;
import java.lang.reflect.Modifier;
import java.nio.file.Files;
import java.nio.file.Path;
import java.util.ArrayList;
import java.util.Arrays;
import java.util.HashMap;
import java.util.HashSet;
import java.util.LinkedHashMap;
import java.util.List;
import java.util.Map;
import java.util.Set;
import java.util.TreeSet;
import javax.lang.model.element.Element;
import javax.lang.model.element.ElementKind;
import javax.lang.model.element.ExecutableElement;
import javax.lang.model.type.TypeKind;
import javax.tools.JavaCompiler;
import javax.tools.StandardJavaFileManager;
import javax.tools.ToolProvider;

/** Looks at VaneCourt.java by the rules of LANGUAGE.md that a program can look at, and at the public face. */
public final class LanguageTest {
    private static final Path SOURCE = Path.of("src/main/java/VaneCourt.java");

    private static final String FACE = """
            int newCase(int,int,int,int)
            int feed(int,int,int,int,int)
            int end(int)
            int text()
            int fault(int)
            boolean by(int)
            boolean call(int)
            int delay()
            boolean appeal(int)
            boolean gust(int,int)
            int withdraw()
            int hour(int)
            int played(int)
            int decades(int,int)
            int undo()
            int ofCase(int,int)
            int is(int)
            int book(int,int)
            int foretold(int,int)
            int ends(int,int,int,int)
            int best(int,boolean,int)
            int harshest(int)
            long odds(boolean)
            int clash(int)
            int leastFacts(int)
            int game(int,boolean,boolean)
            int session(int,int)
            int record(int,int,boolean)
            int turned()
            int fewestWrong()
            int whose()
            int learn(int,boolean)
            int codes(int)
            int sure(int)
            int toBring()
            int counsel(int,int)
            int hired(int,boolean)
            int calm(int)
            int standing(int,int)
            int image()
            int back()
            int about(int)
            """;

    private static final Set<String> LIBRARY = Set.of("length", "charAt", "arraycopy", "min", "max", "abs", "bitCount",
            "floorMod");

    private static int wrong = 0;

    public static void main(String[] args) throws Exception {
        faceIsTheDocuments();
        sourceIsPlain();
        treeKeepsTheRules();
        System.out.println(wrong == 0 ? "the rules are kept" : wrong + " rules are not kept");
        if (wrong != 0) {
            System.exit(1);
        }
    }

    private static void must(boolean so, String what) {
        if (!so) {
            wrong++;
            System.out.println(what);
        }
    }

    private static void faceIsTheDocuments() {
        Class<?> type = VaneCourt.class;
        must(Modifier.isFinal(type.getModifiers()) && Modifier.isPublic(type.getModifiers()), "public and final");
        Set<String> found = new TreeSet<>();
        for (Method m : type.getDeclaredMethods()) {
            if (Modifier.isPublic(m.getModifiers())) {
                List<String> parts = new ArrayList<>();
                for (Class<?> p : m.getParameterTypes()) {
                    parts.add(p.getName());
                }
                found.add(m.getReturnType().getName() + " " + m.getName() + "(" + String.join(",", parts) + ")");
            } else {
                must(Modifier.isPrivate(m.getModifiers()), "neither public nor private: " + m);
            }
        }
        must(found.equals(new TreeSet<>(Arrays.asList(FACE.trim().split("\\R")))), "the face is another: " + found);
        for (Field f : type.getDeclaredFields()) {
            must(Modifier.isPrivate(f.getModifiers()) || f.getName().equals("NONE"), "a field that isn't private: " + f);
        }
        Constructor<?>[] all = type.getDeclaredConstructors();
        must(all.length == 1 && all[0].getParameterCount() == 0 && Modifier.isPublic(all[0].getModifiers()),
                "one public constructor");
        for (Class<?> inside : type.getDeclaredClasses()) {
            must(Modifier.isStatic(inside.getModifiers()) && !Modifier.isPublic(inside.getModifiers())
                    && !Modifier.isProtected(inside.getModifiers()), "a class inside: " + inside);
        }
        must(type.getDeclaredClasses().length < 12, "some twelve classes at most");
    }

    private static void sourceIsPlain() throws Exception {
        String source = Files.readString(SOURCE);
        for (int i = 0; i < source.length(); i++) {
            char sign = source.charAt(i);
            must(sign == '\n' || (sign >= 32 && sign < 127), "a sign beyond 32 .. 126 at " + i);
        }
        must(!source.contains("\npackage "), "no package");
    }

    private static void treeKeepsTheRules() throws Exception {
        JavaCompiler compiler = ToolProvider.getSystemJavaCompiler();
        StandardJavaFileManager files = compiler.getStandardFileManager(null, null, null);
        JavacTask task = (JavacTask) compiler.getTask(null, files, null, List.of("-proc:none"), null,
                files.getJavaFileObjects(SOURCE.toFile()));
        Iterable<? extends CompilationUnitTree> units = task.parse();
        task.analyze();
        Looker looker = new Looker(Trees.instance(task));
        for (CompilationUnitTree unit : units) {
            looker.unit = unit;
            looker.scan(unit, null);
        }
        looker.finish();
    }

    private static final class Looker extends TreePathScanner<Void, Void> {
        private final Trees trees;
        private CompilationUnitTree unit;
        private String method = "";
        private final Map<String, Set<String>> calls = new LinkedHashMap<>();
        private final Set<String> faceNames = new HashSet<>();

        Looker(Trees trees) {
            this.trees = trees;
            for (String line : FACE.trim().split("\\R")) {
                faceNames.add(line.replaceAll(".* (\\w+)\\(.*", "$1"));
            }
        }

        private long line(Tree tree, boolean end) {
            long at = end ? trees.getSourcePositions().getEndPosition(unit, tree)
                    : trees.getSourcePositions().getStartPosition(unit, tree);
            return unit.getLineMap().getLineNumber(at);
        }

        private void refuse(Tree tree, String what) {
            must(false, "line " + line(tree, false) + ": " + what);
        }

        @Override
        public Void visitThrow(ThrowTree t, Void v) {
            refuse(t, "throw");
            return super.visitThrow(t, v);
        }

        @Override
        public Void visitTry(TryTree t, Void v) {
            refuse(t, "try");
            return super.visitTry(t, v);
        }

        @Override
        public Void visitLambdaExpression(LambdaExpressionTree t, Void v) {
            refuse(t, "lambda");
            return super.visitLambdaExpression(t, v);
        }

        @Override
        public Void visitMemberReference(MemberReferenceTree t, Void v) {
            refuse(t, "method reference");
            return super.visitMemberReference(t, v);
        }

        @Override
        public Void visitSynchronized(SynchronizedTree t, Void v) {
            refuse(t, "synchronized");
            return super.visitSynchronized(t, v);
        }

        @Override
        public Void visitAssert(AssertTree t, Void v) {
            refuse(t, "assert");
            return super.visitAssert(t, v);
        }

        @Override
        public Void visitBinary(BinaryTree t, Void v) {
            if (t.getKind() == Tree.Kind.PLUS && trees.getTypeMirror(getCurrentPath()).getKind() == TypeKind.DECLARED) {
                refuse(t, "texts joined by +");
            }
            return super.visitBinary(t, v);
        }

        @Override
        public Void visitImport(ImportTree t, Void v) {
            String name = t.getQualifiedIdentifier().toString();
            must(Set.of("java.util.ArrayList", "java.util.List", "java.util.Arrays", "java.util.Iterator").contains(name),
                    "import " + name);
            return super.visitImport(t, v);
        }

        @Override
        public Void visitBlock(BlockTree t, Void v) {
            must(!t.isStatic(), "line " + line(t, false) + ": a static initialiser block");
            return super.visitBlock(t, v);
        }

        @Override
        public Void visitSwitchExpression(SwitchExpressionTree t, Void v) {
            refuse(t, "a switch that is a value");
            return super.visitSwitchExpression(t, v);
        }

        @Override
        public Void visitEnhancedForLoop(EnhancedForLoopTree t, Void v) {
            must(trees.getTypeMirror(new TreePath(getCurrentPath(), t.getExpression())).getKind() == TypeKind.ARRAY,
                    "line " + line(t, false) + ": for over what is no array");
            return super.visitEnhancedForLoop(t, v);
        }

        @Override
        public Void visitForLoop(ForLoopTree t, Void v) {
            must(t.getCondition() != null && !t.getUpdate().isEmpty(), "line " + line(t, false) + ": a loop without an end");
            return super.visitForLoop(t, v);
        }

        @Override
        public Void visitWhileLoop(WhileLoopTree t, Void v) {
            String condition = t.getCondition().toString();
            must(condition.contains("<") || condition.contains(">"), "line " + line(t, false) + ": a loop without a bound");
            return super.visitWhileLoop(t, v);
        }

        @Override
        public Void visitTypeCast(TypeCastTree t, Void v) {
            must(t.getType() instanceof PrimitiveTypeTree, "line " + line(t, false) + ": a cast of an object");
            return super.visitTypeCast(t, v);
        }

        @Override
        public Void visitLiteral(LiteralTree t, Void v) {
            if (t.getValue() instanceof String text) {
                must(text.chars().allMatch(c -> c >= 1 && c <= 127), "line " + line(t, false) + ": a sign of a text");
            }
            return super.visitLiteral(t, v);
        }

        // Narrower than the rule, by what the class needs.
        @Override
        public Void visitVariable(VariableTree t, Void v) {
            String type = trees.getTypeMirror(getCurrentPath()).toString();
            boolean plain = Set.of("int", "long", "short", "byte", "char", "boolean", "java.lang.String",
                    "java.lang.StringBuilder").contains(type);
            boolean row = Set.of("int[]", "long[]", "short[]", "byte[]", "char[]", "boolean[]", "int[][]").contains(type);
            boolean own = type.matches("VaneCourt\\.\\w+(\\[])?");
            must(plain || row || own, "line " + line(t, false) + ": of the type " + type);
            boolean isStatic = t.getModifiers().getFlags().contains(javax.lang.model.element.Modifier.STATIC);
            must(!isStatic || Set.of("int", "long", "boolean", "char", "java.lang.String").contains(type),
                    "line " + line(t, false) + ": a constant of the type " + type);
            return super.visitVariable(t, v);
        }

        @Override
        public Void visitClass(ClassTree t, Void v) {
            Tree around = getCurrentPath().getParentPath().getLeaf();
            must(around instanceof CompilationUnitTree || around instanceof ClassTree, "a local class: " + t.getSimpleName());
            long fields = t.getMembers().stream().filter(m -> m instanceof VariableTree)
                    .filter(m -> !((VariableTree) m).getModifiers().getFlags()
                            .contains(javax.lang.model.element.Modifier.STATIC)).count();
            must(fields <= 20, "more than twenty fields in " + t.getSimpleName());
            for (Tree m : t.getMembers()) {
                if (m instanceof VariableTree f
                        && f.getModifiers().getFlags().contains(javax.lang.model.element.Modifier.STATIC)) {
                    must(f.getModifiers().getFlags().contains(javax.lang.model.element.Modifier.FINAL),
                            "a static field that isn't final: " + f.getName());
                }
            }
            return super.visitClass(t, v);
        }

        @Override
        public Void visitMethod(MethodTree t, Void v) {
            Element e = trees.getElement(getCurrentPath());
            String old = method;
            method = nameOf((ExecutableElement) e);
            calls.putIfAbsent(method, new HashSet<>());
            must(t.getParameters().size() <= 7, "more than seven parameters: " + method);
            must(line(t, true) - line(t, false) < 60, "a method of more than sixty lines: " + method);
            boolean outside = t.getModifiers().getFlags().contains(javax.lang.model.element.Modifier.PUBLIC);
            must(outside || !faceNames.contains(t.getName().toString()), "a name of the face: " + method);
            super.visitMethod(t, v);
            method = old;
            return null;
        }

        private static String nameOf(ExecutableElement e) {
            return e.getEnclosingElement().getSimpleName() + "." + e.getSimpleName() + e.getParameters().size();
        }

        @Override
        public Void visitMethodInvocation(MethodInvocationTree t, Void v) {
            Element e = trees.getElement(getCurrentPath());
            note(t, e);
            return super.visitMethodInvocation(t, v);
        }

        @Override
        public Void visitNewClass(NewClassTree t, Void v) {
            if (t.getClassBody() != null) {
                refuse(t, "an anonymous class");
            }
            must(isMadeWithTheObject() || method.equals("VaneCourt.text0"), "line " + line(t, false) + ": an object a call");
            note(t, trees.getElement(getCurrentPath()));
            return super.visitNewClass(t, v);
        }

        @Override
        public Void visitNewArray(NewArrayTree t, Void v) {
            must(isMadeWithTheObject(), "line " + line(t, false) + ": a row a call");
            return super.visitNewArray(t, v);
        }

        // All calls of a run share one room; what a field or a constructor makes is made once.
        private boolean isMadeWithTheObject() {
            return method.isEmpty() || method.contains("<init>");
        }

        private void note(Tree t, Element e) {
            if (!(e instanceof ExecutableElement x)) {
                return;
            }
            String owner = x.getEnclosingElement().toString();
            if (owner.startsWith("VaneCourt")) {
                calls.computeIfAbsent(method, k -> new HashSet<>()).add(nameOf(x));
            } else if (x.getKind() != ElementKind.CONSTRUCTOR) {
                must(LIBRARY.contains(x.getSimpleName().toString()), "line " + line(t, false) + ": " + owner + "." + x);
            }
        }

        void finish() {
            Map<String, Integer> depths = new HashMap<>();
            for (String m : calls.keySet()) {
                int depth = depth(m, depths, new HashSet<>());
                must(depth <= 8, "calls that are no recursion go " + depth + " deep from " + m);
            }
        }

        private boolean reaches(String from, String to, Set<String> seen) {
            for (String next : calls.getOrDefault(from, Set.of())) {
                if (next.equals(to) || (seen.add(next) && reaches(next, to, seen))) {
                    return true;
                }
            }
            return false;
        }

        /** How many calls stand open at most, those of one recursion counted once. */
        private int depth(String from, Map<String, Integer> depths, Set<String> around) {
            if (depths.containsKey(from)) {
                return depths.get(from);
            }
            Set<String> ring = new HashSet<>(Set.of(from));
            for (String m : calls.keySet()) {
                if (reaches(from, m, new HashSet<>()) && reaches(m, from, new HashSet<>())) {
                    ring.add(m);
                }
            }
            int deepest = 0;
            for (String m : ring) {
                for (String next : calls.getOrDefault(m, Set.of())) {
                    if (!ring.contains(next)) {
                        deepest = Math.max(deepest, depth(next, depths, around));
                    }
                }
            }
            for (String m : ring) {
                depths.put(m, deepest + 1);
            }
            return deepest + 1;
        }
    }
}
