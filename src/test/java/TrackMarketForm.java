import com.sun.source.tree.AssertTree;
import com.sun.source.tree.AssignmentTree;
import com.sun.source.tree.BinaryTree;
import com.sun.source.tree.BlockTree;
import com.sun.source.tree.ClassTree;
import com.sun.source.tree.CompilationUnitTree;
import com.sun.source.tree.CompoundAssignmentTree;
import com.sun.source.tree.DoWhileLoopTree;
import com.sun.source.tree.ExpressionStatementTree;
import com.sun.source.tree.ExpressionTree;
import com.sun.source.tree.ForLoopTree;
import com.sun.source.tree.IdentifierTree;
import com.sun.source.tree.InstanceOfTree;
import com.sun.source.tree.LambdaExpressionTree;
import com.sun.source.tree.LiteralTree;
import com.sun.source.tree.MemberReferenceTree;
import com.sun.source.tree.MemberSelectTree;
import com.sun.source.tree.MethodInvocationTree;
import com.sun.source.tree.MethodTree;
import com.sun.source.tree.NewArrayTree;
import com.sun.source.tree.NewClassTree;
import com.sun.source.tree.SynchronizedTree;
import com.sun.source.tree.ThrowTree;
import com.sun.source.tree.Tree;
import com.sun.source.tree.TryTree;
import com.sun.source.tree.TypeCastTree;
import com.sun.source.tree.UnaryTree;
import com.sun.source.tree.VariableTree;
import com.sun.source.tree.WhileLoopTree;
import com.sun.source.util.JavacTask;
import com.sun.source.util.TreePath;
import com.sun.source.util.TreePathScanner;
import com.sun.source.util.TreeScanner;
import com.sun.source.util.Trees;
import java.io.IOException;
import java.net.URI;
import java.nio.file.Files;
import java.nio.file.Path;
import java.util.EnumSet;
import java.util.HashMap;
import java.util.HashSet;
import java.util.List;
import java.util.Map;
import java.util.Set;
import java.util.TreeSet;
import javax.lang.model.element.Element;
import javax.lang.model.element.ElementKind;
import javax.lang.model.element.Modifier;
import javax.lang.model.element.VariableElement;
import javax.lang.model.type.ArrayType;
import javax.lang.model.type.TypeKind;
import javax.lang.model.type.TypeMirror;
import javax.tools.DiagnosticCollector;
import javax.tools.JavaCompiler;
import javax.tools.JavaFileObject;
import javax.tools.SimpleJavaFileObject;
import javax.tools.ToolProvider;

/**
 * The program's source keeps to LANGUAGE.md, as far as the compiler's own tree can tell; and, so that this test is
 * itself watched, each rule is broken once or more in a copy of the source, which must be found. Where a rule is
 * hard to tell, this test asks for more than the rule does: arrays are made in the initialisers of final fields
 * alone, no variable changes to another array, every loop counts up to a constant, nothing is divided by what is not
 * a constant. That no index is outside its array (rule 7) is seen in TrackMarketNeverFails, by calls.
 */
public final class TrackMarketForm {
    private static final Path SOURCE = Path.of("src/main/java/TrackMarket.java");
    private static final int MOST_PARAMETERS = 7;
    private static final int MOST_LINES = 60;
    private static final int MOST_DEPTH = 6;
    private static final int MOST_FIELDS = 40;

    private static int right = 0;
    private static int wrong = 0;

    public static void main(String[] args) throws IOException {
        String source = Files.readString(SOURCE);
        Set<String> faults = faults(source);
        check(faults.isEmpty(), "the source: " + faults);
        oneClass(source);
        typesAndLibrary(source);
        arrays(source);
        statementsLeftOut(source);
        loopsAndCalls(source);
        System.out.println(right + " passed, " + wrong + " failed");
        if (wrong != 0) {
            System.exit(1);
        }
    }

    private static void check(boolean holds, String what) {
        if (holds) {
            right++;
        } else {
            wrong++;
            System.out.println(what);
        }
    }

    // ---- copies of the source with a rule broken

    private static void broken(int rule, String source) {
        Set<String> faults = faults(source);
        boolean found = faults.stream().anyMatch(fault -> fault.startsWith("rule " + rule + ":"));
        check(found, "a break of rule " + rule + " was not found, but " + faults + " in: " + source);
    }

    private static void withMember(int rule, String source, String member) {
        int end = source.lastIndexOf('}');
        broken(rule, source.substring(0, end) + member + source.substring(end));
    }

    private static void withStatement(int rule, String source, String statement) {
        withMember(rule, source, "private void added(int a, int[] b) { " + statement + " }");
    }

    private static void withConstructorStatement(int rule, String source, String statement) {
        broken(rule, source.replaceFirst("public TrackMarket\\(int tracks\\) \\{", "$0 " + statement));
    }

    private static void oneClass(String source) {
        broken(1, "package some.where; " + source);
        broken(1, source + " class Other { }");
        broken(1, source.replaceFirst("public final class", "public class"));
        broken(1, source.replaceFirst("class TrackMarket", "class TrackMarket implements java.io.Serializable"));
        withMember(1, source, "private static final class Inner { }");
        withMember(1, source, "private interface Inner { }");
        withMember(1, source, "private enum Inner { A }");
        withMember(1, source, "private record Inner(int a) { }");
        withMember(1, source, "private int take(int a, int b) { return a + b; }");
        withMember(1, source, "public int extra(int a) { return a; }");
        withMember(1, source, "protected int extra;");
        withMember(1, source, "int extra(int a) { return a; }");
        withMember(1, source, "public static final int EXTRA = 1;");
        withMember(1, source, "TrackMarket(int a, int b) { trackCount = a + b; }");
    }

    private static void typesAndLibrary(String source) {
        withMember(2, source, "private float extra;");
        withMember(2, source, "private double extra(int a) { return a; }");
        withMember(2, source, "private int[][] extra;");
        withMember(2, source, "private void extra(String a) { }");
        withStatement(2, source, "boolean c = a < 1.5;");
        withStatement(2, source, "var c = \"text\";");
        broken(3, "import java.util.Arrays; " + source);
        withStatement(3, source, "a = Math.max(a, 1);");
        withStatement(3, source, "a = Integer.MAX_VALUE;");
        withStatement(3, source, "java.util.Arrays.fill(b, a);");
        withStatement(3, source, "a = hashCode();");
        withStatement(3, source, "a = b.clone().length;");
        withMember(5, source, "private static int extra = 1;");
        withMember(5, source, "private static final int[] EXTRA = new int[1];");
        withMember(5, source, "private static final short EXTRA = 1;");
        withMember(5, source, "private static final int EXTRA = zero(); private static int zero() { return 0; }");
        withMember(5, source, "static { int a = 1; }");
        withStatement(11, source, "long c = System.nanoTime();");
    }

    private static void arrays(String source) {
        withStatement(4, source, "int[] c = new int[2];");
        withStatement(4, source, "b = starts;");
        withStatement(4, source, "boolean c = b == starts;");
        withStatement(4, source, "boolean c = b != null;");
        withStatement(4, source, "TrackMarket c = new TrackMarket(1);");
        withMember(4, source, "private int[] extra = new int[2];");
        withMember(4, source, "private final int[] extra = {1, 2};");
        withMember(4, source, "private final int[] extra = new int[] {1, 2};");
        withMember(4, source, "private final int[] extra = new int[0];");
        withMember(4, source, "private final int[] extra = new int[trackCount];");
        withMember(4, source, "private final int[] extra = starts;");
        withMember(4, source, "private int[] extra() { return starts; }");
        withMember(4, source, "private int extra = leastFreeNumber();");
        withConstructorStatement(4, source, "int[] c = new int[tracks];");
        withMember(4, source, "private TrackMarket() { added(starts); } private void added(int[] a) { }");
    }

    private static void statementsLeftOut(String source) {
        withStatement(6, source, "throw new RuntimeException();");
        withStatement(6, source, "try { a = 1; } finally { a = 2; }");
        withStatement(6, source, "synchronized (this) { a = 1; }");
        withMember(6, source, "private synchronized void extra() { }");
        withMember(6, source, "private void extra() throws Exception { }");
        withStatement(6, source, "assert a > 0;");
        withStatement(6, source, "Object c = this; boolean d = c instanceof TrackMarket;");
        withStatement(6, source, "Runnable c = () -> { };");
        withStatement(6, source, "Runnable c = this::loss;");
        withStatement(6, source, "int[] c = (int[]) b;");
        withStatement(7, source, "a = 7 / a;");
        withStatement(7, source, "a %= b.length;");
        withStatement(7, source, "a = a / 1 % (2 - 2);");
    }

    private static void loopsAndCalls(String source) {
        withMember(8, source, "private int extra(int a) { return a == 0 ? 0 : extra(a - 1); }");
        withMember(8, source, "private int odd(int a) { return even(a); } private int even(int a) { return odd(a); }");
        withStatement(8, source, "while (a > 0) { a--; }");
        withStatement(8, source, "do { a--; } while (a > 0);");
        withStatement(8, source, "for (;;) { break; }");
        withStatement(8, source, "for (int c = 0; c < a; c++) { a++; }");
        withStatement(8, source, "for (int c = 0; c < 8; c--) { }");
        withStatement(8, source, "for (int c = 0; c < 8; c++) { c = 0; }");
        withStatement(8, source, "for (int c = 0; c < 8; c++) { c--; }");
        withStatement(8, source, "for (int c = 0; c < 8; c++) { c -= 1; }");
        withMember(10, source, "private void extra(int a, int b, int c, int d, int e, int f, int g, int h) { }");
        withStatement(10, source, "a = countAt(jobs(), a);");
        withStatement(10, source, "a = countAt(1, 2 + worthOf(a));");
        withStatement(10, source, "a++;\n".repeat(MOST_LINES));
        withMember(10, source, "private int extra() { return more(); } private int more() { return busy(1); }");
        withMember(10, source, "private int " + manyNames() + ";");
    }

    private static String manyNames() {
        StringBuilder names = new StringBuilder("extra");
        for (int i = 0; i < MOST_FIELDS; i++) {
            names.append(", extra").append(i);
        }
        return names.toString();
    }

    // ---- the rules

    private static Set<String> faults(String source) {
        JavaCompiler compiler = ToolProvider.getSystemJavaCompiler();
        DiagnosticCollector<JavaFileObject> errors = new DiagnosticCollector<>();
        JavacTask task = (JavacTask) compiler.getTask(null, null, errors, List.of("--release", "17"), null,
            List.of(inMemory(source)));
        try {
            CompilationUnitTree unit = task.parse().iterator().next();
            task.analyze();
            if (!errors.getDiagnostics().isEmpty()) {
                return Set.of("does not compile: " + errors.getDiagnostics());
            }
            Look look = new Look(Trees.instance(task), unit);
            look.scan(new TreePath(unit), null);
            look.callGraph();
            return look.faults;
        } catch (IOException e) {
            return Set.of("cannot be read: " + e);
        }
    }

    private static JavaFileObject inMemory(String source) {
        return new SimpleJavaFileObject(URI.create("string:///TrackMarket.java"), JavaFileObject.Kind.SOURCE) {
            @Override
            public CharSequence getCharContent(boolean ignoreEncodingErrors) {
                return source;
            }
        };
    }

    private static final class Look extends TreePathScanner<Void, Void> {
        private static final Set<TypeKind> NUMBERS = EnumSet.of(TypeKind.INT, TypeKind.LONG, TypeKind.SHORT,
            TypeKind.BYTE, TypeKind.CHAR, TypeKind.BOOLEAN);
        private static final Set<String> FACE = Set.of("BAD", "FULL", "NONE", "bring", "take", "revalue", "setTracks",
            "tracks", "jobs", "chosen", "total", "fits", "tracksFor", "price", "totalWith", "gain", "loss", "busy");

        private final Trees trees;
        private final CompilationUnitTree unit;
        private final Set<String> faults = new TreeSet<>();
        private final Map<Element, Set<Element>> calls = new HashMap<>();
        private Element method;
        private int fields = 0;

        private Look(Trees trees, CompilationUnitTree unit) {
            this.trees = trees;
            this.unit = unit;
        }

        private void fault(int rule, String what, Tree where) {
            long at = trees.getSourcePositions().getStartPosition(unit, where);
            faults.add("rule " + rule + ": " + what + ", line " + unit.getLineMap().getLineNumber(at));
        }

        private void faultIf(boolean breaks, int rule, String what, Tree where) {
            if (breaks) {
                fault(rule, what, where);
            }
        }

        private TreePath path(Tree tree) {
            return trees.getPath(unit, tree);
        }

        private TypeMirror type(Tree tree) {
            return trees.getTypeMirror(path(tree));
        }

        private boolean isArray(Tree tree) {
            TypeMirror type = type(tree);
            return type != null && type.getKind() == TypeKind.ARRAY;
        }

        private static boolean isNumber(TypeMirror type) {
            return NUMBERS.contains(type.getKind());
        }

        private static boolean isNumberOrArray(TypeMirror type) {
            return type.getKind() == TypeKind.ARRAY ? isNumber(((ArrayType) type).getComponentType()) : isNumber(type);
        }

        private static boolean isOwn(Element element) {
            return element != null && element.toString().equals("TrackMarket");
        }

        /** What a literal or the name of a constant stands for; null for any other expression. */
        private Number constant(ExpressionTree tree) {
            if (tree instanceof LiteralTree literal) {
                return literal.getValue() instanceof Number number ? number : null;
            }
            Element named = trees.getElement(path(tree));
            boolean variable = named instanceof VariableElement;
            return variable && ((VariableElement) named).getConstantValue() instanceof Number number ? number : null;
        }

        /** The compiler puts the call super() into a constructor; the source has none. */
        private boolean isPutInByCompiler(Tree tree) {
            return tree instanceof ExpressionStatementTree statement
                && statement.getExpression() instanceof MethodInvocationTree call
                && call.getMethodSelect() instanceof IdentifierTree name && name.getName().contentEquals("super")
                && call.getArguments().isEmpty();
        }

        @Override
        public Void scan(Tree tree, Void unused) {
            if (tree == null || isPutInByCompiler(tree)) {
                return null;
            }
            if (tree instanceof ExpressionTree) {
                valueOf(tree, new TreePath(getCurrentPath(), tree));
            }
            return super.scan(tree, unused);
        }

        private void valueOf(Tree tree, TreePath path) {
            TypeMirror type = trees.getTypeMirror(path);
            Element element = trees.getElement(path);
            if (type == null || type.getKind() == TypeKind.EXECUTABLE || type.getKind() == TypeKind.VOID) {
                return;
            }
            if (type.getKind() == TypeKind.NULL) {
                fault(4, "null", tree);
            } else if (element != null && (element.getKind().isClass() || element.getKind().isInterface())) {
                faultIf(!isOwn(element) && !(tree instanceof NewClassTree), 3, "the class " + element, tree);
            } else {
                boolean itself = tree.toString().equals("this");
                faultIf(!itself && !isNumberOrArray(type), 2, "the type " + type, tree);
            }
        }

        @Override
        public Void visitCompilationUnit(CompilationUnitTree tree, Void unused) {
            faultIf(tree.getPackageName() != null, 1, "a package line", tree);
            faultIf(tree.getTypeDecls().size() != 1, 1, "not one class", tree);
            for (Tree line : tree.getImports()) {
                fault(3, "an import", line);
            }
            return super.visitCompilationUnit(tree, unused);
        }

        @Override
        public Void visitClass(ClassTree tree, Void unused) {
            if (getCurrentPath().getParentPath().getLeaf() != unit) {
                fault(1, "a nested class", tree);
                return null;
            }
            boolean plain = tree.getExtendsClause() == null && tree.getImplementsClause().isEmpty()
                && tree.getTypeParameters().isEmpty() && tree.getPermitsClause().isEmpty();
            Set<Modifier> due = EnumSet.of(Modifier.PUBLIC, Modifier.FINAL);
            faultIf(!plain || !tree.getModifiers().getFlags().equals(due), 1, "not a public final class alone", tree);
            super.visitClass(tree, unused);
            faultIf(fields > MOST_FIELDS, 10, fields + " fields", tree);
            return null;
        }

        /** A private member has a name of its own; any other is one of the document's and public. */
        private void member(Tree tree, String name, Set<Modifier> flags) {
            if (flags.contains(Modifier.PRIVATE)) {
                faultIf(tree instanceof MethodTree && FACE.contains(name), 1, "private and public " + name, tree);
            } else {
                boolean due = FACE.contains(name) || name.equals("<init>");
                faultIf(!due || !flags.contains(Modifier.PUBLIC), 1, "the member " + name, tree);
            }
        }

        @Override
        public Void visitMethod(MethodTree tree, Void unused) {
            method = trees.getElement(getCurrentPath());
            member(tree, tree.getName().toString(), tree.getModifiers().getFlags());
            Tree answer = tree.getReturnType();
            if (answer != null && type(answer).getKind() != TypeKind.VOID) {
                faultIf(isArray(answer), 4, "an array is answered", tree);
                faultIf(!isNumberOrArray(type(answer)), 2, "the type " + answer, tree);
            }
            boolean plain = tree.getThrows().isEmpty()
                && !tree.getModifiers().getFlags().contains(Modifier.SYNCHRONIZED);
            faultIf(!plain, 6, "throws or synchronized", tree);
            faultIf(tree.getParameters().size() > MOST_PARAMETERS, 10, "parameters", tree);
            faultIf(lines(tree) > MOST_LINES, 10, lines(tree) + " lines", tree);
            calls.put(method, new HashSet<>());
            super.visitMethod(tree, unused);
            method = null;
            return null;
        }

        private long lines(Tree tree) {
            long first = trees.getSourcePositions().getStartPosition(unit, tree);
            long last = trees.getSourcePositions().getEndPosition(unit, tree);
            return unit.getLineMap().getLineNumber(last) - unit.getLineMap().getLineNumber(first) + 1;
        }

        @Override
        public Void visitVariable(VariableTree tree, Void unused) {
            Element element = trees.getElement(getCurrentPath());
            faultIf(!isNumberOrArray(element.asType()), 2, "the type of " + tree.getName(), tree);
            if (element.getKind() == ElementKind.FIELD) {
                member(tree, tree.getName().toString(), tree.getModifiers().getFlags());
                field(tree, (VariableElement) element);
            }
            return super.visitVariable(tree, unused);
        }

        private void field(VariableTree tree, VariableElement element) {
            if (element.getModifiers().contains(Modifier.STATIC)) {
                TypeKind kind = element.asType().getKind();
                boolean constant = element.getConstantValue() != null;
                faultIf(!constant || kind != TypeKind.INT && kind != TypeKind.LONG, 5, "a static field", tree);
                return;
            }
            fields++;
            if (element.asType().getKind() == TypeKind.ARRAY) {
                boolean once = element.getModifiers().contains(Modifier.FINAL);
                faultIf(!once || !(tree.getInitializer() instanceof NewArrayTree), 4, "an array field", tree);
            }
        }

        @Override
        public Void visitBlock(BlockTree tree, Void unused) {
            faultIf(tree.isStatic(), 5, "a static initialiser", tree);
            return super.visitBlock(tree, unused);
        }

        @Override
        public Void visitNewArray(NewArrayTree tree, Void unused) {
            faultIf(method != null, 4, "an array made in a method", tree);
            boolean oneLength = tree.getDimensions().size() == 1 && tree.getInitializers() == null;
            Number length = oneLength ? constant(tree.getDimensions().get(0)) : null;
            faultIf(length == null || length.longValue() < 1, 4, "an array's length", tree);
            return super.visitNewArray(tree, unused);
        }

        @Override
        public Void visitNewClass(NewClassTree tree, Void unused) {
            fault(4, "an object is made", tree);
            return super.visitNewClass(tree, unused);
        }

        @Override
        public Void visitAssignment(AssignmentTree tree, Void unused) {
            faultIf(isArray(tree.getVariable()), 4, "a change to another array", tree);
            return super.visitAssignment(tree, unused);
        }

        @Override
        public Void visitBinary(BinaryTree tree, Void unused) {
            boolean compares = tree.getKind() == Tree.Kind.EQUAL_TO || tree.getKind() == Tree.Kind.NOT_EQUAL_TO;
            boolean array = isArray(tree.getLeftOperand()) || isArray(tree.getRightOperand());
            faultIf(compares && array, 4, "an array is compared", tree);
            boolean divides = tree.getKind() == Tree.Kind.DIVIDE || tree.getKind() == Tree.Kind.REMAINDER;
            faultIf(divides && !isDivisor(tree.getRightOperand()), 7, "a divisor", tree);
            return super.visitBinary(tree, unused);
        }

        @Override
        public Void visitCompoundAssignment(CompoundAssignmentTree tree, Void unused) {
            boolean divides = tree.getKind() == Tree.Kind.DIVIDE_ASSIGNMENT
                || tree.getKind() == Tree.Kind.REMAINDER_ASSIGNMENT;
            faultIf(divides && !isDivisor(tree.getExpression()), 7, "a divisor", tree);
            return super.visitCompoundAssignment(tree, unused);
        }

        private boolean isDivisor(ExpressionTree tree) {
            Number value = constant(tree);
            return value != null && value.longValue() != 0;
        }

        @Override
        public Void visitIdentifier(IdentifierTree tree, Void unused) {
            named(tree);
            return super.visitIdentifier(tree, unused);
        }

        @Override
        public Void visitMemberSelect(MemberSelectTree tree, Void unused) {
            named(tree);
            return super.visitMemberSelect(tree, unused);
        }

        /** Only a foreign name could reach a clock or a file, so rule 11 stands or falls with rule 3. */
        private void named(ExpressionTree tree) {
            Element element = trees.getElement(getCurrentPath());
            boolean foreign = element != null && switch (element.getKind()) {
                case METHOD -> !isOwn(element.getEnclosingElement());
                case FIELD -> !isOwn(element.getEnclosingElement()) && !tree.toString().endsWith(".length")
                    && !tree.toString().equals("this");
                case PACKAGE -> true;
                default -> false;
            };
            faultIf(foreign, 3, "the name " + tree, tree);
            faultIf(foreign, 11, "the name " + tree, tree);
        }

        @Override
        public Void visitMethodInvocation(MethodInvocationTree tree, Void unused) {
            faultIf(method == null, 4, "a call before all arrays are made", tree);
            for (ExpressionTree argument : tree.getArguments()) {
                faultIf(holdsCall(argument), 10, "a call inside a call's arguments", tree);
                boolean constructor = method != null && method.getKind() == ElementKind.CONSTRUCTOR;
                faultIf(constructor && isArray(argument), 4, "the constructor hands on an array", tree);
            }
            Element callee = trees.getElement(getCurrentPath());
            if (method != null) {
                calls.get(method).add(callee);
            }
            return super.visitMethodInvocation(tree, unused);
        }

        private static boolean holdsCall(Tree tree) {
            boolean[] found = {false};
            new TreeScanner<Void, Void>() {
                @Override
                public Void visitMethodInvocation(MethodInvocationTree call, Void unused) {
                    found[0] = true;
                    return null;
                }
            }.scan(tree, null);
            return found[0];
        }

        @Override
        public Void visitForLoop(ForLoopTree tree, Void unused) {
            faultIf(!countsUp(tree), 8, "a loop that does not count up to a constant", tree);
            return super.visitForLoop(tree, unused);
        }

        private boolean countsUp(ForLoopTree tree) {
            boolean whole = tree.getInitializer().size() == 1 && tree.getUpdate().size() == 1
                && tree.getInitializer().get(0) instanceof VariableTree
                && tree.getCondition() instanceof BinaryTree;
            if (!whole) {
                return false;
            }
            String counter = ((VariableTree) tree.getInitializer().get(0)).getName().toString();
            BinaryTree bound = (BinaryTree) tree.getCondition();
            return bound.getKind() == Tree.Kind.LESS_THAN && bound.getLeftOperand().toString().equals(counter)
                && constant(bound.getRightOperand()) != null
                && tree.getUpdate().get(0).getExpression().toString().equals(counter + "++")
                && !changes(tree.getStatement(), counter);
        }

        private static boolean changes(Tree body, String counter) {
            boolean[] found = {false};
            new TreeScanner<Void, Void>() {
                private void changed(ExpressionTree variable) {
                    found[0] |= variable.toString().equals(counter);
                }

                @Override
                public Void visitAssignment(AssignmentTree tree, Void unused) {
                    changed(tree.getVariable());
                    return super.visitAssignment(tree, unused);
                }

                @Override
                public Void visitCompoundAssignment(CompoundAssignmentTree tree, Void unused) {
                    changed(tree.getVariable());
                    return super.visitCompoundAssignment(tree, unused);
                }

                @Override
                public Void visitUnary(UnaryTree tree, Void unused) {
                    changed(tree.getExpression());
                    return super.visitUnary(tree, unused);
                }
            }.scan(body, null);
            return found[0];
        }

        @Override
        public Void visitWhileLoop(WhileLoopTree tree, Void unused) {
            fault(8, "a loop without a counter of its own", tree);
            return super.visitWhileLoop(tree, unused);
        }

        @Override
        public Void visitDoWhileLoop(DoWhileLoopTree tree, Void unused) {
            fault(8, "a loop without a counter of its own", tree);
            return super.visitDoWhileLoop(tree, unused);
        }

        @Override
        public Void visitThrow(ThrowTree tree, Void unused) {
            fault(6, "throw", tree);
            return super.visitThrow(tree, unused);
        }

        @Override
        public Void visitTry(TryTree tree, Void unused) {
            fault(6, "try", tree);
            return super.visitTry(tree, unused);
        }

        @Override
        public Void visitSynchronized(SynchronizedTree tree, Void unused) {
            fault(6, "synchronized", tree);
            return super.visitSynchronized(tree, unused);
        }

        @Override
        public Void visitAssert(AssertTree tree, Void unused) {
            fault(6, "assert", tree);
            return super.visitAssert(tree, unused);
        }

        @Override
        public Void visitInstanceOf(InstanceOfTree tree, Void unused) {
            fault(6, "instanceof", tree);
            return super.visitInstanceOf(tree, unused);
        }

        @Override
        public Void visitLambdaExpression(LambdaExpressionTree tree, Void unused) {
            fault(6, "a lambda", tree);
            return super.visitLambdaExpression(tree, unused);
        }

        @Override
        public Void visitMemberReference(MemberReferenceTree tree, Void unused) {
            fault(6, "a method reference", tree);
            return super.visitMemberReference(tree, unused);
        }

        @Override
        public Void visitTypeCast(TypeCastTree tree, Void unused) {
            faultIf(!isNumber(type(tree.getType())), 6, "a cast of a reference", tree);
            return super.visitTypeCast(tree, unused);
        }

        // ---- rules 8 and 10, over all methods together

        /** With no recursion the longest row of calls has each method at most once; a longer one tells of a circle. */
        private void callGraph() {
            Map<Element, Integer> depths = new HashMap<>();
            for (Element each : calls.keySet()) {
                depths.put(each, 1);
            }
            for (int round = 0; round <= calls.size(); round++) {
                for (Map.Entry<Element, Set<Element>> each : calls.entrySet()) {
                    for (Element callee : each.getValue()) {
                        int through = 1 + depths.getOrDefault(callee, 0);
                        depths.merge(each.getKey(), through, Math::max);
                    }
                }
            }
            for (Map.Entry<Element, Integer> each : depths.entrySet()) {
                if (each.getValue() > calls.size()) {
                    faults.add("rule 8: recursion through " + each.getKey());
                } else if (each.getValue() > MOST_DEPTH) {
                    faults.add("rule 10: " + each.getValue() + " calls deep from " + each.getKey());
                }
            }
        }
    }
}
