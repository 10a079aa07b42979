import com.sun.source.tree.AssertTree;
import com.sun.source.tree.AssignmentTree;
import com.sun.source.tree.BinaryTree;
import com.sun.source.tree.BlockTree;
import com.sun.source.tree.ClassTree;
import com.sun.source.tree.CompilationUnitTree;
import com.sun.source.tree.DoWhileLoopTree;
import com.sun.source.tree.EnhancedForLoopTree;
import com.sun.source.tree.ExpressionTree;
import com.sun.source.tree.ForLoopTree;
import com.sun.source.tree.IdentifierTree;
import com.sun.source.tree.InstanceOfTree;
import com.sun.source.tree.LambdaExpressionTree;
import com.sun.source.tree.LiteralTree;
import com.sun.source.tree.MemberReferenceTree;
import com.sun.source.tree.MemberSelectTree;
import com.sun.source.tree.MethodInvocationTree;
import com.sun.source.tree.MethodTree;
import com.sun.source.tree.NewArrayTree;
import com.sun.source.tree.NewClassTree;
import com.sun.source.tree.SynchronizedTree;
import com.sun.source.tree.ThrowTree;
import com.sun.source.tree.Tree;
import com.sun.source.tree.TryTree;
import com.sun.source.tree.TypeCastTree;
import com.sun.source.tree.VariableTree;
import com.sun.source.tree.WhileLoopTree;
import com.sun.source.util.JavacTask;
import com.sun.source.util.SourcePositions;
import com.sun.source.util.TreeScanner;
import com.sun.source.util.Trees;
import java.io.File;
import java.util.HashMap;
import java.util.Map;
import java.util.Set;
import java.util.TreeSet;
import javax.lang.model.element.Modifier;
import javax.tools.JavaCompiler;
import javax.tools.StandardJavaFileManager;
import javax.tools.ToolProvider;

/**
 * The rules of LANGUAGE.md, held against the program's syntax tree. Where a rule leaves more than
 * the program needs, the test asks for the narrower form: arrays only in fields' initialisers, only
 * "for" loops with a counter against a bound, no dot at all. Rule 7 is in ChangeBoundaryTest.
 */
public final class LanguageTest {
    private static final String SOURCE = "src/main/java/DatalogDelta.java";
    private static final Set<String> TYPES = Set.of("int", "long", "short", "byte", "char", "boolean");
    private static final int MOST_LINES = 60;
    private static final int MOST_PARAMETERS = 7;
    private static final int MOST_DEPTH = 6;
    private static final int MOST_FIELDS = 40;

    public static void main(String[] args) throws Exception {
        JavaCompiler compiler = ToolProvider.getSystemJavaCompiler();
        try (StandardJavaFileManager files = compiler.getStandardFileManager(null, null, null)) {
            JavacTask task = (JavacTask) compiler.getTask(
                null, files, null, null, null, files.getJavaFileObjects(new File(SOURCE)));
            CompilationUnitTree unit = task.parse().iterator().next();
            topLevel(unit);
            Rules rules = new Rules(unit, Trees.instance(task).getSourcePositions());
            rules.scan(unit, null);
            rules.end();
        }
        Check.finish();
    }

    private static void topLevel(CompilationUnitTree unit) {
        Check.same("rule 1: a package line", unit.getPackageName() != null, false);
        Check.same("rule 3: imports", unit.getImports().size(), 0);
        Check.same("rule 1: classes", unit.getTypeDecls().size(), 1);
    }

    private static final class Rules extends TreeScanner<Void, Void> {
        private final CompilationUnitTree unit;
        private final SourcePositions positions;
        private final Map<String, Set<String>> calls = new HashMap<>();
        private final Set<String> arrays = new TreeSet<>();
        private final Set<String> constants = new TreeSet<>();
        private String method = null;
        private int classes = 0;
        private int fields = 0;
        private int callsAround = 0;
        private boolean inField = false;

        Rules(CompilationUnitTree unit, SourcePositions positions) {
            this.unit = unit;
            this.positions = positions;
        }

        private long line(long position) {
            return unit.getLineMap().getLineNumber(position);
        }

        private void refuse(int rule, String what, Tree tree) {
            long at = line(positions.getStartPosition(unit, tree));
            Check.same("rule " + rule + ", line " + at + ": " + what, true, false);
        }

        private void ask(int rule, String what, Tree tree, boolean kept) {
            if (!kept) {
                refuse(rule, what, tree);
            }
        }

        void end() {
            Check.same("rule 10: at most 40 fields", fields <= MOST_FIELDS, true);
            for (String name : calls.keySet()) {
                Check.same("rules 8 and 10: " + name + " calls at most six deep", deep(name, 1), true);
                for (String called : calls.get(name)) {
                    Check.same("rule 3: " + called + " is the class's own", calls.containsKey(called), true);
                }
            }
        }

        /** A recursion never ends, so it goes too deep as well. */
        private boolean deep(String name, int depth) {
            if (depth > MOST_DEPTH) {
                return false;
            }
            for (String called : calls.getOrDefault(name, Set.of())) {
                if (!deep(called, depth + 1)) {
                    return false;
                }
            }
            return true;
        }

        @Override
        public Void visitClass(ClassTree tree, Void none) {
            classes++;
            ask(1, "a nested class", tree, classes == 1);
            ask(1, "neither interface, enum nor record", tree, tree.getKind() == Tree.Kind.CLASS);
            ask(1, "no parent", tree, tree.getExtendsClause() == null && tree.getImplementsClause().isEmpty());
            for (Tree member : tree.getMembers()) {
                if (member instanceof VariableTree) {
                    field((VariableTree) member);
                }
            }
            for (Tree member : tree.getMembers()) {
                ask(5, "an initialiser block", member, !(member instanceof BlockTree));
                inField = member instanceof VariableTree;
                scan(member, none);
            }
            return null;
        }

        private void field(VariableTree tree) {
            String name = tree.getName().toString();
            String type = tree.getType().toString();
            boolean isStatic = tree.getModifiers().getFlags().contains(Modifier.STATIC);
            if (type.endsWith("[]")) {
                arrays.add(name);
                ask(4, "an array field that is final, made at once", tree,
                    tree.getModifiers().getFlags().contains(Modifier.FINAL)
                        && tree.getInitializer() instanceof NewArrayTree);
            }
            if (isStatic) {
                constants.add(name);
                ask(5, "a constant int or long", tree, type.equals("int") || type.equals("long"));
                ask(5, "a final constant", tree, tree.getModifiers().getFlags().contains(Modifier.FINAL));
            } else {
                fields++;
            }
        }

        @Override
        public Void visitVariable(VariableTree tree, Void none) {
            type(tree.getType());
            if (method != null && tree.getType().toString().endsWith("[]")) {
                arrays.add(tree.getName().toString());
            }
            return super.visitVariable(tree, none);
        }

        private void type(Tree tree) {
            String name = tree.toString();
            String element = name.endsWith("[]") ? name.substring(0, name.length() - 2) : name;
            ask(2, "type " + name, tree, TYPES.contains(element));
        }

        @Override
        public Void visitMethod(MethodTree tree, Void none) {
            method = tree.getName().toString();
            ask(1, method + " has its name alone", tree, calls.put(method, new TreeSet<>()) == null);
            ask(10, "too many parameters", tree, tree.getParameters().size() <= MOST_PARAMETERS);
            ask(6, "throws", tree, tree.getThrows().isEmpty());
            ask(6, "synchronized", tree, !tree.getModifiers().getFlags().contains(Modifier.SYNCHRONIZED));
            Tree answer = tree.getReturnType();
            if (answer != null && !answer.toString().equals("void")) {
                ask(2, "answers " + answer, tree, TYPES.contains(answer.toString()));
            }
            long lines = line(positions.getEndPosition(unit, tree)) - line(positions.getStartPosition(unit, tree)) + 1;
            ask(10, method + " is " + lines + " lines long", tree, lines <= MOST_LINES);
            super.visitMethod(tree, none);
            method = null;
            return null;
        }

        @Override
        public Void visitMethodInvocation(MethodInvocationTree tree, Void none) {
            String called = tree.getMethodSelect().toString();
            ask(10, "a call inside the arguments of another", tree, callsAround == 0);
            // The call of the parent's constructor is written by the compiler.
            if (!called.equals("super")) {
                ask(3, "calls " + called, tree, tree.getMethodSelect() instanceof IdentifierTree);
                ask(4, "a call outside of methods", tree, method != null);
                calls.computeIfAbsent(method, name -> new TreeSet<>()).add(called);
            }
            callsAround++;
            scan(tree.getArguments(), none);
            callsAround--;
            return null;
        }

        @Override
        public Void visitNewArray(NewArrayTree tree, Void none) {
            ask(4, "an array made outside a field's initialiser", tree, inField);
            ask(4, "an array with one length and no list", tree,
                tree.getDimensions().size() == 1 && tree.getInitializers() == null);
            for (ExpressionTree length : tree.getDimensions()) {
                boolean literal = length instanceof LiteralTree && !length.toString().equals("0");
                ask(4, "a length that is a literal or a constant", tree,
                    literal || constants.contains(length.toString()));
            }
            return super.visitNewArray(tree, none);
        }

        @Override
        public Void visitAssignment(AssignmentTree tree, Void none) {
            ask(4, "an array assigned", tree, !arrays.contains(tree.getVariable().toString()));
            return super.visitAssignment(tree, none);
        }

        @Override
        public Void visitBinary(BinaryTree tree, Void none) {
            ask(4, "an array compared", tree, !arrays.contains(tree.getLeftOperand().toString())
                && !arrays.contains(tree.getRightOperand().toString()));
            return super.visitBinary(tree, none);
        }

        @Override
        public Void visitLiteral(LiteralTree tree, Void none) {
            Tree.Kind kind = tree.getKind();
            ask(2, "literal " + tree, tree, kind == Tree.Kind.INT_LITERAL || kind == Tree.Kind.LONG_LITERAL
                || kind == Tree.Kind.CHAR_LITERAL || kind == Tree.Kind.BOOLEAN_LITERAL);
            return null;
        }

        @Override
        public Void visitTypeCast(TypeCastTree tree, Void none) {
            ask(6, "a cast to " + tree.getType(), tree, TYPES.contains(tree.getType().toString()));
            return super.visitTypeCast(tree, none);
        }

        @Override
        public Void visitForLoop(ForLoopTree tree, Void none) {
            boolean counts = tree.getInitializer().size() == 1 && tree.getUpdate().size() == 1
                && tree.getInitializer().get(0) instanceof VariableTree;
            ask(8, "a loop without a counter", tree, counts);
            if (counts) {
                String counter = ((VariableTree) tree.getInitializer().get(0)).getName().toString();
                String bounded = String.valueOf(tree.getCondition());
                ask(8, "a loop without a bound", tree, bounded.startsWith(counter + " < "));
                ask(8, "a counter that doesn't count", tree,
                    tree.getUpdate().get(0).toString().equals(counter + "++;"));
                ask(8, "a counter that the loop changes", tree,
                    !tree.getStatement().toString().matches("(?s).*\\b" + counter + "(\\+\\+|--| [-+*/|&^%]?= ).*"));
            }
            return super.visitForLoop(tree, none);
        }

        @Override
        public Void visitMemberSelect(MemberSelectTree tree, Void none) {
            refuse(3, "a dot", tree);
            return null;
        }

        @Override
        public Void visitNewClass(NewClassTree tree, Void none) {
            refuse(4, "an object made", tree);
            return null;
        }

        @Override
        public Void visitThrow(ThrowTree tree, Void none) {
            refuse(6, "throw", tree);
            return null;
        }

        @Override
        public Void visitTry(TryTree tree, Void none) {
            refuse(6, "try", tree);
            return null;
        }

        @Override
        public Void visitSynchronized(SynchronizedTree tree, Void none) {
            refuse(6, "synchronized", tree);
            return null;
        }

        @Override
        public Void visitAssert(AssertTree tree, Void none) {
            refuse(6, "assert", tree);
            return null;
        }

        @Override
        public Void visitInstanceOf(InstanceOfTree tree, Void none) {
            refuse(6, "instanceof", tree);
            return null;
        }

        @Override
        public Void visitLambdaExpression(LambdaExpressionTree tree, Void none) {
            refuse(6, "lambda", tree);
            return null;
        }

        @Override
        public Void visitMemberReference(MemberReferenceTree tree, Void none) {
            refuse(6, "method reference", tree);
            return null;
        }

        @Override
        public Void visitWhileLoop(WhileLoopTree tree, Void none) {
            refuse(8, "while", tree);
            return null;
        }

        @Override
        public Void visitDoWhileLoop(DoWhileLoopTree tree, Void none) {
            refuse(8, "do", tree);
            return null;
        }

        @Override
        public Void visitEnhancedForLoop(EnhancedForLoopTree tree, Void none) {
            refuse(8, "a loop over an array", tree);
            return null;
        }
    }
}
