import com.sun.source.tree.*;
import com.sun.source.util.JavacTask;
import com.sun.source.util.TreePath;
import com.sun.source.util.TreePathScanner;
import com.sun.source.util.Trees;
import java.nio.file.Files;
import java.nio.file.Path;
import java.util.ArrayList;
import java.util.EnumSet;
import java.util.LinkedHashMap;
import java.util.List;
import java.util.Map;
import java.util.Set;
import java.util.TreeSet;
import javax.lang.model.element.Element;
import javax.lang.model.element.ElementKind;
import javax.lang.model.element.ExecutableElement;
import javax.lang.model.element.Modifier;
import javax.lang.model.element.TypeElement;
import javax.lang.model.type.ArrayType;
import javax.lang.model.type.TypeKind;
import javax.lang.model.type.TypeMirror;
import javax.tools.JavaCompiler;
import javax.tools.StandardJavaFileManager;
import javax.tools.ToolProvider;

/** The rules of LANGUAGE.md, looked at in the program's tree as javac reads it. */
public final class LanguageTest {
    private static final Due DUE = new Due("LanguageTest");
    private static final Path PROGRAM = Path.of("src/main/java/PlatePeas.java");
    /** What the program uses of the library that rule 4 lists. */
    private static final Set<String> LIBRARY = Set.of("Integer.bitCount", "Math.max", "Math.min", "Arrays.fill",
        "System.arraycopy");
    /** Of rules 2 and 6; loops are for alone, so that each one's bound stands in its head. */
    private static final Set<Tree.Kind> FORBIDDEN = EnumSet.of(Tree.Kind.THROW, Tree.Kind.TRY, Tree.Kind.CATCH,
        Tree.Kind.SYNCHRONIZED, Tree.Kind.ASSERT, Tree.Kind.LAMBDA_EXPRESSION, Tree.Kind.MEMBER_REFERENCE,
        Tree.Kind.ANNOTATION, Tree.Kind.WHILE_LOOP, Tree.Kind.DO_WHILE_LOOP);
    private static final Set<TypeKind> NUMBERS = EnumSet.of(TypeKind.INT, TypeKind.LONG, TypeKind.SHORT, TypeKind.BYTE,
        TypeKind.CHAR);

    private final Trees trees;
    private final CompilationUnitTree unit;
    private final javax.lang.model.util.Types types;
    private final Map<ExecutableElement, Set<ExecutableElement>> calls = new LinkedHashMap<>();
    private final List<TypeElement> classes = new ArrayList<>();

    private LanguageTest(JavacTask task, CompilationUnitTree unit) {
        this.trees = Trees.instance(task);
        this.unit = unit;
        this.types = task.getTypes();
    }

    public static void main(String[] args) throws Exception {
        JavaCompiler compiler = ToolProvider.getSystemJavaCompiler();
        try (StandardJavaFileManager files = compiler.getStandardFileManager(null, null, null)) {
            JavacTask task = (JavacTask) compiler.getTask(null, files, null, List.of("--release", "17"), null,
                files.getJavaFileObjects(PROGRAM));
            CompilationUnitTree unit = task.parse().iterator().next();
            task.analyze();
            new LanguageTest(task, unit).look();
        }
        signs();
        room();
        DUE.end();
    }

    private static void holds(int rule, String what, boolean so) {
        DUE.is("rule " + rule + ": " + what, so ? 1 : 0, 1);
    }

    private void look() {
        holds(1, "no package line", unit.getPackage() == null);
        holds(1, "one class in the file", unit.getTypeDecls().size() == 1);
        for (ImportTree i : unit.getImports()) {
            holds(4, "import " + i, i.toString().strip().equals("import java.util.Arrays;"));
        }
        new Looker().scan(unit, null);
        holds(11, "at most twelve classes", classes.size() <= 12);
        depths();
    }

    private long linesOf(Tree tree) {
        LineMap lines = unit.getLineMap();
        long begin = trees.getSourcePositions().getStartPosition(unit, tree);
        long end = trees.getSourcePositions().getEndPosition(unit, tree);
        return lines.getLineNumber(end) - lines.getLineNumber(begin) + 1;
    }

    private boolean isOwn(Element element) {
        for (Element e = element; e != null; e = e.getEnclosingElement()) {
            if (e.getSimpleName().contentEquals("PlatePeas")) {
                return true;
            }
        }
        return false;
    }

    private boolean isOwnClass(TypeMirror type) {
        return type.getKind() == TypeKind.DECLARED && isOwn(types.asElement(type));
    }

    /** Numbers, own classes, arrays of these of one dimension: all that the program needs of rule 3. */
    private boolean isAllowed(TypeMirror type) {
        if (type.getKind() == TypeKind.ARRAY) {
            TypeMirror part = ((ArrayType) type).getComponentType();
            return NUMBERS.contains(part.getKind()) || isOwnClass(part);
        }
        return NUMBERS.contains(type.getKind()) || type.getKind() == TypeKind.BOOLEAN || isOwnClass(type);
    }

    private final class Looker extends TreePathScanner<Void, Void> {
        private ExecutableElement inside;

        @Override
        public Void scan(Tree tree, Void none) {
            if (tree != null && FORBIDDEN.contains(tree.getKind())) {
                holds(6, "not " + tree.getKind() + ": " + tree, false);
            }
            return super.scan(tree, none);
        }

        @Override
        public Void visitClass(ClassTree tree, Void none) {
            TypeElement type = (TypeElement) trees.getElement(getCurrentPath());
            Set<Modifier> modifiers = type.getModifiers();
            boolean outer = classes.isEmpty();
            classes.add(type);
            if (outer) {
                holds(1, "public and final", modifiers.equals(Set.of(Modifier.PUBLIC, Modifier.FINAL)));
            } else {
                holds(2, "static: " + type, modifiers.contains(Modifier.STATIC));
                holds(2, "inside the class: " + type, type.getEnclosingElement().equals(classes.get(0)));
                holds(1, "not open: " + type, !modifiers.contains(Modifier.PUBLIC)
                    && !modifiers.contains(Modifier.PROTECTED));
            }
            int fields = 0;
            for (Element e : type.getEnclosedElements()) {
                fields += e.getKind() == ElementKind.FIELD && !e.getModifiers().contains(Modifier.STATIC) ? 1 : 0;
            }
            holds(11, "at most twenty fields: " + type, fields <= 20);
            for (Tree member : tree.getMembers()) {
                holds(5, "no block of its own: " + type, member.getKind() != Tree.Kind.BLOCK);
            }
            return super.visitClass(tree, none);
        }

        @Override
        public Void visitMethod(MethodTree tree, Void none) {
            ExecutableElement method = (ExecutableElement) trees.getElement(getCurrentPath());
            holds(11, "at most seven parameters: " + method, tree.getParameters().size() <= 7);
            if (trees.getSourcePositions().getEndPosition(unit, tree) >= 0) {
                holds(11, "at most sixty lines: " + method, linesOf(tree) <= 60);
            }
            boolean ofFace = method.getEnclosingElement().equals(classes.get(0))
                && method.getModifiers().contains(Modifier.PUBLIC);
            if (!ofFace && method.getKind() == ElementKind.METHOD) {
                for (Element open : classes.get(0).getEnclosedElements()) {
                    boolean same = open.getModifiers().contains(Modifier.PUBLIC)
                        && open.getSimpleName().equals(method.getSimpleName());
                    holds(1, "no other method of the name " + method, !same);
                }
            }
            holds(6, "no " + method,
                !Set.of("equals", "hashCode", "toString", "finalize").contains(method.getSimpleName().toString()));
            calls.putIfAbsent(method, new java.util.LinkedHashSet<>());
            ExecutableElement before = inside;
            inside = method;
            super.visitMethod(tree, none);
            inside = before;
            return null;
        }

        @Override
        public Void visitVariable(VariableTree tree, Void none) {
            Element variable = trees.getElement(getCurrentPath());
            holds(3, "the type of " + tree, isAllowed(variable.asType()));
            if (variable.getModifiers().contains(Modifier.STATIC)) {
                holds(5, "final: " + tree, variable.getModifiers().contains(Modifier.FINAL));
                holds(5, "written out: " + tree, tree.getInitializer() != null
                    && (variable.asType().getKind().isPrimitive()
                    || tree.getInitializer().getKind() == Tree.Kind.NEW_ARRAY));
            }
            return super.visitVariable(tree, none);
        }

        @Override
        public Void visitAssignment(AssignmentTree tree, Void none) {
            if (tree.getVariable() instanceof ArrayAccessTree cell) {
                Element array = trees.getElement(new TreePath(getCurrentPath(), cell.getExpression()));
                holds(5, "a constant's row is not changed: " + tree,
                    array == null || !array.getModifiers().contains(Modifier.STATIC));
            }
            return super.visitAssignment(tree, none);
        }

        @Override
        public Void visitMethodInvocation(MethodInvocationTree tree, Void none) {
            ExecutableElement called = (ExecutableElement) trees.getElement(getCurrentPath());
            if (isOwn(called)) {
                calls.get(inside).add(called);
            } else if (called.getKind() != ElementKind.CONSTRUCTOR) {
                String name = called.getEnclosingElement().getSimpleName() + "." + called.getSimpleName();
                holds(4, "of the library " + name, LIBRARY.contains(name));
            }
            boolean making = inside != null && inside.getKind() == ElementKind.CONSTRUCTOR;
            holds(12, "no call in a constructor: " + tree, !making || called.getKind() == ElementKind.CONSTRUCTOR);
            return super.visitMethodInvocation(tree, none);
        }

        @Override
        public Void visitForLoop(ForLoopTree tree, Void none) {
            boolean counted = tree.getCondition() != null && tree.getInitializer().size() == 1
                && tree.getUpdate().size() == 1;
            holds(9, "a counter against a bound: " + tree, counted);
            if (!counted) {
                return super.visitForLoop(tree, none);
            }
            String counter = tree.getInitializer().get(0) instanceof VariableTree v ? v.getName().toString() : "?";
            holds(9, "the bound looks at " + counter + ": " + tree.getCondition(),
                tree.getCondition().toString().matches(".*\\b" + counter + " (<|<=|>) .*"));
            holds(9, "the loop moves " + counter, tree.getUpdate().get(0).toString().matches(counter + "(\\+\\+|--);"));
            holds(9, "nothing else moves " + counter,
                !tree.getStatement().toString().matches("(?s).*\\b" + counter + "( [-+*/%]?= |\\+\\+|--).*"));
            return super.visitForLoop(tree, none);
        }

        @Override
        public Void visitNewArray(NewArrayTree tree, Void none) {
            for (ExpressionTree length : tree.getDimensions()) {
                Element named = trees.getElement(new TreePath(getCurrentPath(), length));
                holds(12, "a constant length: " + tree, named != null && named.getModifiers().contains(Modifier.STATIC)
                    && named.getModifiers().contains(Modifier.FINAL));
            }
            return super.visitNewArray(tree, none);
        }

        @Override
        public Void visitTypeCast(TypeCastTree tree, Void none) {
            holds(6, "a cast of numbers: " + tree, tree.getType().getKind() == Tree.Kind.PRIMITIVE_TYPE);
            return super.visitTypeCast(tree, none);
        }

        @Override
        public Void visitLiteral(LiteralTree tree, Void none) {
            holds(10, "no text: " + tree, tree.getKind() != Tree.Kind.STRING_LITERAL);
            return super.visitLiteral(tree, none);
        }
    }

    /** All methods that a call may come to: the one that is named, and those that stand in its place in kinds below. */
    private Set<ExecutableElement> bodiesOf(ExecutableElement called) {
        Set<ExecutableElement> bodies = new java.util.LinkedHashSet<>();
        bodies.add(called);
        for (ExecutableElement other : calls.keySet()) {
            boolean below = types.isSubtype(other.getEnclosingElement().asType(), called.getEnclosingElement().asType());
            if (below && other.getSimpleName().equals(called.getSimpleName())
                && other.getKind() == ElementKind.METHOD
                && other.getParameters().size() == called.getParameters().size()) {
                bodies.add(other);
            }
        }
        return bodies;
    }

    private void depths() {
        TreeSet<String> recursive = new TreeSet<>();
        int deepest = 0;
        for (ExecutableElement method : calls.keySet()) {
            if (calls.get(method).contains(method)) {
                recursive.add(method.getSimpleName().toString());
                holds(8, "the depth is an argument of " + method, method.getParameters().stream()
                    .anyMatch(p -> p.getSimpleName().contentEquals("level")));
            }
            if (method.getModifiers().contains(Modifier.PUBLIC)) {
                deepest = Math.max(deepest, depth(method, new ArrayList<>()));
            }
        }
        holds(8, "only searches call themselves: " + recursive, recursive.equals(Set.of("findsRow", "mostHad")));
        holds(11, "calls that are no recursion go at most eight deep: " + deepest, deepest <= 8 && deepest > 3);
    }

    private int depth(ExecutableElement method, List<ExecutableElement> open) {
        open.add(method);
        int deepest = 0;
        for (ExecutableElement called : calls.getOrDefault(method, Set.of())) {
            for (ExecutableElement body : called.equals(method) ? Set.<ExecutableElement>of() : bodiesOf(called)) {
                boolean upwards = body.getSimpleName().equals(method.getSimpleName()) && !body.equals(called);
                if (upwards || body.getKind() == ElementKind.CONSTRUCTOR) {
                    continue;
                }
                holds(8, "methods do not call one another in a ring: " + open + body, !open.contains(body));
                if (!open.contains(body)) {
                    deepest = Math.max(deepest, depth(body, open));
                }
            }
        }
        open.remove(open.size() - 1);
        return deepest + 1;
    }

    private static void signs() throws Exception {
        String source = Files.readString(PROGRAM);
        holds(4, "signs 1 to 127", source.chars().allMatch(c -> c > 0 && c < 128));
    }

    /** What a run of 512 calls makes stays small: searches make nothing, a new plate its eaters alone. */
    private static void room() {
        com.sun.management.ThreadMXBean threads =
            (com.sun.management.ThreadMXBean) java.lang.management.ManagementFactory.getThreadMXBean();
        PlatePeas x = Due.laid("p56;o....o;......;..oo..;......;o.....;s4;k2");
        askDearly(x, 10);
        long begun = threads.getCurrentThreadAllocatedBytes();
        askDearly(x, 500 / 5);
        long asked = threads.getCurrentThreadAllocatedBytes();
        int peas = 0;
        for (int k = 0; k < 500; k++) {
            peas += x.plate(3, 0, 0, 44);
        }
        long laid = threads.getCurrentThreadAllocatedBytes();
        holds(12, "500 searches take " + (asked - begun) + " bytes, below 1,000", asked - begun < 1_000);
        holds(12, "500 plates are taken", peas == 500 * 5);
        holds(12, "500 plates take " + (laid - asked) + " bytes, below 40,000", laid - asked < 40_000);
    }

    private static void askDearly(PlatePeas x, int times) {
        for (int k = 0; k < times; k++) {
            x.push(k % 2, k % 5, k % 4);
            x.fewest(k % 5, -1);
            x.most(3);
            x.never();
            x.last(-1);
        }
    }
}
