import com.sun.source.tree.ArrayTypeTree;
import com.sun.source.tree.AssertTree;
import com.sun.source.tree.BlockTree;
import com.sun.source.tree.ClassTree;
import com.sun.source.tree.CompilationUnitTree;
import com.sun.source.tree.DoWhileLoopTree;
import com.sun.source.tree.EnhancedForLoopTree;
import com.sun.source.tree.ExpressionTree;
import com.sun.source.tree.ForLoopTree;
import com.sun.source.tree.IdentifierTree;
import com.sun.source.tree.InstanceOfTree;
import com.sun.source.tree.LambdaExpressionTree;
import com.sun.source.tree.LiteralTree;
import com.sun.source.tree.MemberReferenceTree;
import com.sun.source.tree.MemberSelectTree;
import com.sun.source.tree.MethodInvocationTree;
import com.sun.source.tree.MethodTree;
import com.sun.source.tree.NewArrayTree;
import com.sun.source.tree.NewClassTree;
import com.sun.source.tree.PrimitiveTypeTree;
import com.sun.source.tree.SynchronizedTree;
import com.sun.source.tree.ThrowTree;
import com.sun.source.tree.Tree;
import com.sun.source.tree.TryTree;
import com.sun.source.tree.TypeCastTree;
import com.sun.source.tree.VariableTree;
import com.sun.source.tree.WhileLoopTree;
import com.sun.source.util.JavacTask;
import com.sun.source.util.SourcePositions;
import com.sun.source.util.TreeScanner;
import com.sun.source.util.Trees;
import java.io.IOException;
import java.nio.file.Path;
import java.util.EnumSet;
import java.util.HashSet;
import java.util.List;
import java.util.Map;
import java.util.Set;
import java.util.TreeMap;
import java.util.TreeSet;
import javax.lang.model.element.Modifier;
import javax.lang.model.type.TypeKind;
import javax.tools.JavaCompiler;
import javax.tools.StandardJavaFileManager;
import javax.tools.ToolProvider;

/**
 * The rules of LANGUAGE.md that can be seen in the source. Where a rule leaves a choice that the program does not
 * use (arrays made in the constructor, arrays in local variables, while loops), the test allows the plainer way only.
 */
public final class LanguageTest {
    private static final Path SOURCE = Path.of("src/main/java/SequencePatterns.java");
    private static final Set<TypeKind> NUMBERS = EnumSet.of(
            TypeKind.INT, TypeKind.LONG, TypeKind.SHORT, TypeKind.BYTE, TypeKind.CHAR, TypeKind.BOOLEAN);
    private static final int MAX_PARAMETERS = 7;
    private static final int MAX_LINES = 60;
    private static final int MAX_DEPTH = 6;
    private static final int MAX_FIELDS = 40;

    private static CompilationUnitTree unit;
    private static SourcePositions positions;
    private static final Map<String, Set<String>> CALLS = new TreeMap<>();

    public static void main(String[] args) throws IOException {
        parse();
        Check.holds("1: no package line", unit.getPackage() == null);
        Check.holds("3: nothing is imported", unit.getImports().isEmpty());
        Check.due("1: classes in the file", unit.getTypeDecls().size(), 1);
        ClassTree program = (ClassTree) unit.getTypeDecls().get(0);
        members(program);
        new Rules().scan(unit, null);
        calls();
        Check.end();
    }

    private static void parse() throws IOException {
        JavaCompiler compiler = ToolProvider.getSystemJavaCompiler();
        StandardJavaFileManager files = compiler.getStandardFileManager(null, null, null);
        JavacTask task = (JavacTask) compiler.getTask(
                null, files, null, List.of("--release", "17"), null, files.getJavaFileObjects(SOURCE));
        unit = task.parse().iterator().next();
        positions = Trees.instance(task).getSourcePositions();
    }

    private static void members(ClassTree program) {
        Check.holds("1: the class extends and implements nothing",
                program.getExtendsClause() == null && program.getImplementsClause().isEmpty());
        Set<String> names = new HashSet<>();
        int fields = 0;
        for (Tree member : program.getMembers()) {
            if (member instanceof VariableTree field) {
                fields += field.getModifiers().getFlags().contains(Modifier.STATIC) ? 0 : 1;
                field(field);
            } else if (member instanceof MethodTree method) {
                Check.holds("1: one method named " + method.getName(), names.add(method.getName().toString()));
                method(method);
            } else {
                Check.holds("1, 5: neither nested class nor initialiser: " + member, false);
            }
        }
        Check.holds("10: at most " + MAX_FIELDS + " fields, not " + fields, fields <= MAX_FIELDS);
    }

    private static void field(VariableTree field) {
        Set<Modifier> flags = field.getModifiers().getFlags();
        boolean array = field.getType() instanceof ArrayTypeTree;
        if (flags.contains(Modifier.STATIC)) {
            Check.holds("5: a constant of int or long: " + field,
                    flags.contains(Modifier.FINAL) && field.getInitializer() != null
                            && (isOf(field.getType(), TypeKind.INT) || isOf(field.getType(), TypeKind.LONG)));
        }
        if (array) {
            Check.holds("4: an array is made in the field's initialiser and stays: " + field,
                    flags.contains(Modifier.FINAL) && field.getInitializer() instanceof NewArrayTree);
        }
    }

    private static void method(MethodTree method) {
        String name = method.getName().toString();
        Check.holds("10: parameters of " + name, method.getParameters().size() <= MAX_PARAMETERS);
        Check.holds("6: " + name + " throws nothing", method.getThrows().isEmpty());
        Check.holds("4: " + name + " answers no array", !(method.getReturnType() instanceof ArrayTypeTree));
        if (method.getReturnType() instanceof PrimitiveTypeTree type) {
            Check.holds("2: the type of " + name,
                    type.getPrimitiveTypeKind() == TypeKind.VOID || NUMBERS.contains(type.getPrimitiveTypeKind()));
        }
        long lines = line(positions.getEndPosition(unit, method)) - line(positions.getStartPosition(unit, method)) + 1;
        Check.holds("10: lines of " + name + ": " + lines, lines <= MAX_LINES);
        Set<String> called = new TreeSet<>();
        new TreeScanner<Void, Void>() {
            @Override
            public Void visitMethodInvocation(MethodInvocationTree call, Void none) {
                called.add(call.getMethodSelect().toString());
                return super.visitMethodInvocation(call, none);
            }
        }.scan(method.getBody(), null);
        CALLS.put(name, called);
    }

    private static long line(long position) {
        return unit.getLineMap().getLineNumber(position);
    }

    private static boolean isOf(Tree type, TypeKind kind) {
        return type instanceof PrimitiveTypeTree primitive && primitive.getPrimitiveTypeKind() == kind;
    }

    private static boolean isNumber(Tree type) {
        return type instanceof PrimitiveTypeTree primitive && NUMBERS.contains(primitive.getPrimitiveTypeKind());
    }

    /** Only methods of the class are called, none calls itself in any way, and calls go at most six deep. */
    private static void calls() {
        for (Map.Entry<String, Set<String>> method : CALLS.entrySet()) {
            for (String called : method.getValue()) {
                Check.holds("3: " + called + ", called by " + method.getKey() + ", is of this class",
                        CALLS.containsKey(called) || called.equals("super"));
            }
            int depth = depth(method.getKey(), MAX_DEPTH + 1);
            Check.holds("8, 10: calls from " + method.getKey() + " go at most six deep", depth <= MAX_DEPTH);
        }
    }

    /** How many methods are at work at once, or more than the limit: so it ends even if a method calls itself. */
    private static int depth(String method, int limit) {
        int below = 0;
        if (limit > 0) {
            for (String called : CALLS.getOrDefault(method, Set.of())) {
                below = Math.max(below, depth(called, limit - 1));
            }
        }
        return CALLS.containsKey(method) ? below + 1 : 0;
    }

    /** What must not stand anywhere in the class. */
    private static final class Rules extends TreeScanner<Void, Void> {
        private int callsAround = 0;

        private static void never(String rule, Tree tree) {
            Check.holds(rule + ": " + tree, false);
        }

        @Override
        public Void visitVariable(VariableTree variable, Void none) {
            Tree type = variable.getType();
            boolean field = variable.getModifiers().getFlags().contains(Modifier.PRIVATE)
                    || variable.getModifiers().getFlags().contains(Modifier.PUBLIC);
            boolean array = type instanceof ArrayTypeTree arrayType && isNumber(arrayType.getType());
            Check.holds("2: the type of " + variable, isNumber(type) || field && array);
            return super.visitVariable(variable, none);
        }

        @Override
        public Void visitMethod(MethodTree method, Void none) {
            new TreeScanner<Void, Void>() {
                @Override
                public Void visitNewArray(NewArrayTree made, Void nothing) {
                    never("4: a method makes no array", made);
                    return null;
                }
            }.scan(method.getBody(), null);
            return super.visitMethod(method, none);
        }

        @Override
        public Void visitNewArray(NewArrayTree made, Void none) {
            boolean plain = made.getInitializers() == null && made.getDimensions().size() == 1;
            Check.holds("4: one length and no list: " + made, plain);
            for (ExpressionTree length : made.getDimensions()) {
                Check.holds("4: a length that is a literal or a constant: " + made,
                        length instanceof LiteralTree || length.toString().matches("[A-Z][A-Z_]*"));
            }
            return super.visitNewArray(made, none);
        }

        @Override
        public Void visitMethodInvocation(MethodInvocationTree call, Void none) {
            Check.holds("3: a method of this class: " + call, call.getMethodSelect() instanceof IdentifierTree);
            Check.due("10: calls around the arguments of " + call, callsAround, 0);
            callsAround++;
            scan(call.getArguments(), none);
            callsAround--;
            return null;
        }

        @Override
        public Void visitMemberSelect(MemberSelectTree select, Void none) {
            Check.holds("3: no member of another class: " + select, select.getIdentifier().contentEquals("length")
                    || select.getExpression().toString().equals("this"));
            return super.visitMemberSelect(select, none);
        }

        @Override
        public Void visitLiteral(LiteralTree literal, Void none) {
            boolean plain = switch (literal.getKind()) {
                case INT_LITERAL, LONG_LITERAL, CHAR_LITERAL, BOOLEAN_LITERAL -> true;
                default -> false;
            };
            Check.holds("2, 4: a number, a character or a truth value: " + literal, plain);
            return super.visitLiteral(literal, none);
        }

        @Override
        public Void visitForLoop(ForLoopTree loop, Void none) {
            Check.holds("8: a counter against a bound: " + loop,
                    loop.getCondition() != null && loop.getUpdate().size() == 1);
            return super.visitForLoop(loop, none);
        }

        @Override
        public Void visitTypeCast(TypeCastTree cast, Void none) {
            Check.holds("6: a cast between numbers: " + cast, isNumber(cast.getType()));
            return super.visitTypeCast(cast, none);
        }

        @Override
        public Void visitBlock(BlockTree block, Void none) {
            Check.holds("5: no static initialiser", !block.isStatic());
            return super.visitBlock(block, none);
        }

        @Override
        public Void visitNewClass(NewClassTree made, Void none) {
            never("4: no object is made", made);
            return null;
        }

        @Override
        public Void visitThrow(ThrowTree tree, Void none) {
            never("6: no throw", tree);
            return null;
        }

        @Override
        public Void visitTry(TryTree tree, Void none) {
            never("6: no try", tree);
            return null;
        }

        @Override
        public Void visitSynchronized(SynchronizedTree tree, Void none) {
            never("6: no synchronized", tree);
            return null;
        }

        @Override
        public Void visitAssert(AssertTree tree, Void none) {
            never("6: no assert", tree);
            return null;
        }

        @Override
        public Void visitInstanceOf(InstanceOfTree tree, Void none) {
            never("6: no instanceof", tree);
            return null;
        }

        @Override
        public Void visitLambdaExpression(LambdaExpressionTree tree, Void none) {
            never("6: no lambda", tree);
            return null;
        }

        @Override
        public Void visitMemberReference(MemberReferenceTree tree, Void none) {
            never("6: no method reference", tree);
            return null;
        }

        @Override
        public Void visitWhileLoop(WhileLoopTree tree, Void none) {
            never("8: for loops only", tree);
            return null;
        }

        @Override
        public Void visitDoWhileLoop(DoWhileLoopTree tree, Void none) {
            never("8: for loops only", tree);
            return null;
        }

        @Override
        public Void visitEnhancedForLoop(EnhancedForLoopTree tree, Void none) {
            never("8: for loops with a counter only", tree);
            return null;
        }
    }
}
