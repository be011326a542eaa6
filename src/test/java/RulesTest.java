import com.sun.source.tree.AssertTree;
import com.sun.source.tree.BinaryTree;
import com.sun.source.tree.BlockTree;
import com.sun.source.tree.ClassTree;
import com.sun.source.tree.CompilationUnitTree;
import com.sun.source.tree.DoWhileLoopTree;
import com.sun.source.tree.EnhancedForLoopTree;
import com.sun.source.tree.ForLoopTree;
import com.sun.source.tree.IdentifierTree;
import com.sun.source.tree.ImportTree;
import com.sun.source.tree.InstanceOfTree;
import com.sun.source.tree.LambdaExpressionTree;
import com.sun.source.tree.MemberReferenceTree;
import com.sun.source.tree.MemberSelectTree;
import com.sun.source.tree.MethodInvocationTree;
import com.sun.source.tree.MethodTree;
import com.sun.source.tree.NewArrayTree;
import com.sun.source.tree.NewClassTree;
import com.sun.source.tree.PrimitiveTypeTree;
import com.sun.source.tree.SynchronizedTree;
import com.sun.source.tree.ThrowTree;
import com.sun.source.tree.Tree;
import com.sun.source.tree.TryTree;
import com.sun.source.tree.TypeCastTree;
import com.sun.source.tree.VariableTree;
import com.sun.source.tree.WhileLoopTree;
import com.sun.source.util.JavacTask;
import com.sun.source.util.SourcePositions;
import com.sun.source.util.TreePathScanner;
import com.sun.source.util.Trees;
import java.io.File;
import java.lang.reflect.Constructor;
import java.lang.reflect.Field;
import java.lang.reflect.Method;
import java.nio.file.Files;
import java.nio.file.Path;
import java.util.ArrayDeque;
import java.util.Deque;
import java.util.HashMap;
import java.util.HashSet;
import java.util.List;
import java.util.Map;
import java.util.Set;
import java.util.TreeSet;
import javax.lang.model.element.Modifier;
import javax.tools.JavaCompiler;
import javax.tools.StandardJavaFileManager;
import javax.tools.ToolProvider;

/** Those rules of the language that can be seen from the source: LANGUAGE.md, rules 1 to 6, 8 to 12. */
public final class RulesTest {
    private static final Set<String> FACE = Set.of("feed", "land", "fault", "person", "road", "why", "takes", "go",
            "give", "forge", "shut", "days", "undo", "judge", "perform", "year", "soonest", "way", "left", "reach",
            "ways", "needed", "proofs", "waives", "inTime", "spare", "helped", "worst", "loophole", "loopWay", "round",
            "crosses", "meet", "meetAt", "shoes", "sure", "ask", "dry", "safest", "numbers", "write", "lists", "image",
            "restore", "count", "<init>");
    private static final Set<String> LIBRARY = Set.of("Arrays.fill", "System.arraycopy", "Math.max", "Math.min",
            "Integer.bitCount", "Long.bitCount", "length", "charAt", "indexOf");

    /** The reader's methods that carry their depth. */
    private static final Set<String> RECURSIVE = Set.of("truth", "unit", "sum", "atom");
    private static final Set<String> NUMBERS = Set.of("int", "long", "byte", "boolean", "void", "String");

    private static final Map<String, Set<String>> CALLS = new HashMap<>();
    private static final Set<String> OWN = new HashSet<>();
    private static final Set<String> OUTSIDE = new TreeSet<>();
    private static final Set<String> TYPES = new TreeSet<>();
    private static final Set<String> CLASSES = new HashSet<>();

    public static void main(String[] args) throws Exception {
        faceOfTheDocument();
        signsOfTheSource();
        JavaCompiler compiler = ToolProvider.getSystemJavaCompiler();
        try (StandardJavaFileManager files = compiler.getStandardFileManager(null, null, null)) {
            JavacTask task = (JavacTask) compiler.getTask(null, files, null, List.of("-proc:none"), null,
                    files.getJavaFileObjects(new File("src/main/java/BackBridge.java")));
            Trees trees = Trees.instance(task);
            for (CompilationUnitTree unit : task.parse()) {
                new Scan(unit, trees.getSourcePositions()).scan(unit, null);
            }
        }
        for (String call : OUTSIDE) {
            String name = call.substring(call.indexOf('.') + 1);
            if (!OWN.contains(name) && !LIBRARY.contains(call) && !LIBRARY.contains(name)) {
                Told.due("a call outside the library: " + call, 1, 0);
            }
        }
        for (String name : CALLS.keySet()) {
            if (!RECURSIVE.contains(name) && callsItself(name)) {
                Told.due("recursion in " + name, 1, 0);
            }
        }
        for (String type : TYPES) {
            if (!CLASSES.contains(type)) {
                Told.due("a type outside the rules: " + type, 1, 0);
            }
        }
        for (String name : FACE) {
            int depth = depth(name, new ArrayDeque<>());
            if (depth > 8) {
                Told.due("calls too deep from " + name, depth, 8);
            }
        }
        Told.end();
    }

    /** Each public line of the document's face, and no other. */
    private static void faceOfTheDocument() throws Exception {
        Set<String> told = new TreeSet<>();
        for (String line : Files.readAllLines(Path.of("../shared/DOC.md"))) {
            if (line.startsWith("    public ")) {
                told.add(line.strip().replaceAll("(int|long) [a-z]+([,)])", "$1$2"));
            }
        }
        Set<String> there = new TreeSet<>();
        for (Field field : BackBridge.class.getFields()) {
            there.add("public static final " + field.getType() + " " + field.getName() + " = " + field.getInt(null) + ";");
        }
        for (Constructor<?> made : BackBridge.class.getConstructors()) {
            there.add("public BackBridge(" + types(made.getParameterTypes()) + ");");
        }
        for (Method method : BackBridge.class.getDeclaredMethods()) {
            if (java.lang.reflect.Modifier.isPublic(method.getModifiers())) {
                there.add("public " + method.getReturnType() + " " + method.getName() + "("
                        + types(method.getParameterTypes()) + ");");
            }
        }
        Told.due("lines of the face", told.size(), FACE.size() + 1);
        for (String line : told) {
            Told.due("the face lacks " + line, there.contains(line) ? 0 : 1, 0);
        }
        for (String line : there) {
            Told.due("beside the face " + line, told.contains(line) ? 0 : 1, 0);
        }
    }

    private static void signsOfTheSource() throws Exception {
        for (byte sign : Files.readAllBytes(Path.of("src/main/java/BackBridge.java"))) {
            Told.due("a sign of the source that is not plain: " + sign, sign == 10 || sign >= 32 && sign < 127 ? 1 : 0, 1);
        }
    }

    private static String types(Class<?>[] types) {
        StringBuilder s = new StringBuilder();
        for (Class<?> type : types) {
            s.append(s.length() == 0 ? "" : ", ").append(type);
        }
        return s.toString();
    }

    /** Calls by name that stand open at once; one that stands open already is recursion. */
    private static int depth(String name, Deque<String> open) {
        if (open.contains(name)) {
            return 0;
        }
        open.push(name);
        int deepest = 0;
        for (String called : CALLS.getOrDefault(name, Set.of())) {
            if (OWN.contains(called)) {
                deepest = Math.max(deepest, depth(called, open));
            }
        }
        open.pop();
        return deepest + 1;
    }

    private static boolean callsItself(String name) {
        Set<String> reached = new HashSet<>();
        Deque<String> open = new ArrayDeque<>(CALLS.getOrDefault(name, Set.of()));
        while (!open.isEmpty()) {
            String called = open.pop();
            if (OWN.contains(called) && reached.add(called)) {
                open.addAll(CALLS.getOrDefault(called, Set.of()));
            }
        }
        return reached.contains(name);
    }

    private static final class Scan extends TreePathScanner<Void, Void> {
        private final CompilationUnitTree unit;
        private final SourcePositions positions;
        private final Deque<String> methods = new ArrayDeque<>();
        private int classes;

        Scan(CompilationUnitTree unit, SourcePositions positions) {
            this.unit = unit;
            this.positions = positions;
        }

        private void wrong(String what) {
            Told.due(what, 1, 0);
        }

        private long line(long position) {
            return unit.getLineMap().getLineNumber(position);
        }

        @Override
        public Void visitImport(ImportTree tree, Void v) {
            if (!tree.getQualifiedIdentifier().toString().equals("java.util.Arrays")) {
                wrong("import " + tree.getQualifiedIdentifier());
            }
            return null;
        }

        @Override
        public Void visitClass(ClassTree tree, Void v) {
            classes++;
            CLASSES.add(tree.getSimpleName().toString());
            Set<Modifier> flags = tree.getModifiers().getFlags();
            if (classes > 12) {
                wrong("too many classes: " + tree.getSimpleName());
            }
            if (classes > 1 && !flags.contains(Modifier.STATIC)) {
                wrong("a class inside that isn't static: " + tree.getSimpleName());
            }
            int fields = 0;
            for (Tree member : tree.getMembers()) {
                if (member instanceof BlockTree) {
                    wrong("a block beside methods in " + tree.getSimpleName());
                }
                if (member instanceof MethodTree method) {
                    checkFace(classes, method.getName().toString(), method.getModifiers().getFlags());
                }
                if (member instanceof VariableTree field) {
                    boolean constant = field.getModifiers().getFlags().contains(Modifier.STATIC);
                    fields += constant ? 0 : 1;
                    if (constant && !field.getModifiers().getFlags().contains(Modifier.FINAL)) {
                        wrong("static state: " + field.getName());
                    }
                    checkFace(classes, field.getName().toString(), field.getModifiers().getFlags());
                }
            }
            if (fields > 20) {
                wrong("too many fields in " + tree.getSimpleName());
            }
            return super.visitClass(tree, v);
        }

        /** Numbers, texts, own classes; rows of these, and rows of rows of numbers. */
        private void checkType(Tree tree) {
            String type = tree == null ? "void" : tree.toString();
            String of = type.replace("[]", "");
            int rows = (type.length() - of.length()) / 2;
            if (!NUMBERS.contains(of)) {
                TYPES.add(of);
            }
            if (rows > 2 || rows == 2 && !Set.of("int", "long", "byte").contains(of)) {
                wrong("rows of rows: " + type);
            }
        }

        @Override
        public Void visitVariable(VariableTree tree, Void v) {
            checkType(tree.getType());
            return super.visitVariable(tree, v);
        }

        @Override
        public Void visitBinary(BinaryTree tree, Void v) {
            boolean text = tree.getLeftOperand().getKind() == Tree.Kind.STRING_LITERAL
                    || tree.getRightOperand().getKind() == Tree.Kind.STRING_LITERAL;
            if (text) {
                wrong("texts joined or compared by a sign: " + tree);
            }
            return super.visitBinary(tree, v);
        }

        /** A counter against a bound: stronger than rule 9. */
        @Override
        public Void visitForLoop(ForLoopTree tree, Void v) {
            String end = tree.getCondition() == null ? "" : tree.getCondition().toString();
            if (tree.getUpdate().isEmpty() || !end.matches(".*[<>].*")) {
                wrong("a loop whose end is not seen: for " + end);
            }
            return super.visitForLoop(tree, v);
        }

        @Override
        public Void visitWhileLoop(WhileLoopTree tree, Void v) {
            if (!tree.getCondition().toString().matches("\\(\\w+ < \\w+ && .*")) {
                wrong("a loop whose end is not seen: while " + tree.getCondition());
            }
            return super.visitWhileLoop(tree, v);
        }

        @Override
        public Void visitDoWhileLoop(DoWhileLoopTree tree, Void v) {
            wrong("do: none is needed");
            return null;
        }

        @Override
        public Void visitEnhancedForLoop(EnhancedForLoopTree tree, Void v) {
            wrong("for over a row: none is needed");
            return null;
        }

        private void checkFace(int inClass, String name, Set<Modifier> flags) {
            if (inClass == 1 && !flags.contains(Modifier.PRIVATE) && !name.equals("NONE") && !FACE.contains(name)) {
                wrong("a member beside the face: " + name);
            }
        }

        @Override
        public Void visitMethod(MethodTree tree, Void v) {
            String name = tree.getName().toString();
            Set<Modifier> flags = tree.getModifiers().getFlags();
            boolean inFace = flags.contains(Modifier.PUBLIC);
            OWN.add(name);
            checkType(tree.getReturnType());
            if (FACE.contains(name) && !inFace && !name.equals("<init>")) {
                wrong("a method named as one of the face: " + name);
            }
            if (inFace && !FACE.contains(name)) {
                wrong("a public method beside the face: " + name);
            }
            if (tree.getParameters().size() > 7) {
                wrong("too many parameters: " + name);
            }
            long lines = line(positions.getEndPosition(unit, tree)) - line(positions.getStartPosition(unit, tree)) + 1;
            if (lines > 60) {
                wrong("too long: " + name);
            }
            methods.push(name);
            super.visitMethod(tree, v);
            methods.pop();
            return null;
        }

        @Override
        public Void visitMethodInvocation(MethodInvocationTree tree, Void v) {
            Tree called = tree.getMethodSelect();
            String name = called instanceof MemberSelectTree select ? select.getIdentifier().toString()
                    : ((IdentifierTree) called).getName().toString();
            OUTSIDE.add(called instanceof MemberSelectTree select && select.getExpression() instanceof IdentifierTree
                    ? called.toString() : name);
            if (!methods.isEmpty()) {
                CALLS.computeIfAbsent(methods.peek(), k -> new HashSet<>()).add(name);
            }
            return super.visitMethodInvocation(tree, v);
        }

        @Override
        public Void visitMemberSelect(MemberSelectTree tree, Void v) {
            String of = tree.getExpression().toString();
            if (Set.of("Integer", "Long", "Math", "System", "Arrays", "String", "Character", "Byte").contains(of)
                    && !LIBRARY.contains(tree.toString())) {
                wrong("outside the library: " + tree);
            }
            return super.visitMemberSelect(tree, v);
        }

        /** Stronger than rule 12: calls use what constructors made. */
        @Override
        public Void visitNewClass(NewClassTree tree, Void v) {
            if (tree.getClassBody() != null) {
                wrong("an anonymous class");
            }
            if (!methods.isEmpty() && !methods.peek().equals("<init>")) {
                wrong("an object made by a call: " + methods.peek());
            }
            return super.visitNewClass(tree, v);
        }

        @Override
        public Void visitNewArray(NewArrayTree tree, Void v) {
            if (!methods.isEmpty() && !methods.peek().equals("<init>")) {
                wrong("a row made by a call: " + methods.peek());
            }
            return super.visitNewArray(tree, v);
        }

        @Override
        public Void visitTypeCast(TypeCastTree tree, Void v) {
            if (!(tree.getType() instanceof PrimitiveTypeTree)) {
                wrong("a cast among objects: " + tree);
            }
            return super.visitTypeCast(tree, v);
        }

        @Override
        public Void visitInstanceOf(InstanceOfTree tree, Void v) {
            wrong("instanceof: none is needed");
            return null;
        }

        @Override
        public Void visitAssert(AssertTree tree, Void v) {
            wrong("assert");
            return null;
        }

        @Override
        public Void visitSynchronized(SynchronizedTree tree, Void v) {
            wrong("synchronized");
            return null;
        }

        @Override
        public Void visitLambdaExpression(LambdaExpressionTree tree, Void v) {
            wrong("a lambda");
            return null;
        }

        @Override
        public Void visitMemberReference(MemberReferenceTree tree, Void v) {
            wrong("a method reference");
            return null;
        }

        @Override
        public Void visitThrow(ThrowTree tree, Void v) {
            wrong("throw");
            return null;
        }

        @Override
        public Void visitTry(TryTree tree, Void v) {
            wrong("try");
            return null;
        }
    }
}
