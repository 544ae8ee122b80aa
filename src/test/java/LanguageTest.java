import com.sun.source.tree.AssertTree;
import com.sun.source.tree.BinaryTree;
import com.sun.source.tree.CatchTree;
import com.sun.source.tree.ClassTree;
import com.sun.source.tree.CompilationUnitTree;
import com.sun.source.tree.ImportTree;
import com.sun.source.tree.LambdaExpressionTree;
import com.sun.source.tree.LiteralTree;
import com.sun.source.tree.MemberReferenceTree;
import com.sun.source.tree.MemberSelectTree;
import com.sun.source.tree.MethodTree;
import com.sun.source.tree.NewClassTree;
import com.sun.source.tree.SynchronizedTree;
import com.sun.source.tree.ThrowTree;
import com.sun.source.tree.Tree;
import com.sun.source.tree.TryTree;
import com.sun.source.tree.VariableTree;
import com.sun.source.tree.WhileLoopTree;
import com.sun.source.util.JavacTask;
import com.sun.source.util.SourcePositions;
import com.sun.source.util.TreeScanner;
import com.sun.source.util.Trees;
import java.nio.file.Path;
import java.util.List;
import javax.lang.model.element.Modifier;
import javax.tools.JavaCompiler;
import javax.tools.StandardJavaFileManager;
import javax.tools.ToolProvider;

/** The class keeps to ../shared/LANGUAGE.md, as far as its text alone shows that. */
public final class LanguageTest extends TreeScanner<Void, Void> {
    private static final Path SOURCE = Path.of("src/main/java/AuntsInTurn.java");
    private static final List<String> IMPORTS = List.of("java.util.ArrayList", "java.util.Arrays", "java.util.List");
    private static final List<String> OF_ARRAYS = List.of("copyOf", "copyOfRange", "fill");

    private final Check check = new Check();
    private final SourcePositions positions;
    private final CompilationUnitTree unit;
    private int depth = 0;

    private LanguageTest(SourcePositions positions, CompilationUnitTree unit) {
        this.positions = positions;
        this.unit = unit;
    }

    public static void main(String[] args) throws Exception {
        JavaCompiler compiler = ToolProvider.getSystemJavaCompiler();
        try (StandardJavaFileManager files = compiler.getStandardFileManager(null, null, null)) {
            JavacTask task = (JavacTask) compiler.getTask(null, files, null, null, null, files.getJavaFileObjects(SOURCE));
            CompilationUnitTree unit = task.parse().iterator().next();
            LanguageTest test = new LanguageTest(Trees.instance(task).getSourcePositions(), unit);
            test.scan(unit, null);
            test.check.due("one top class", unit.getTypeDecls().size(), 1);
            test.check.end();
        }
    }

    private long line(long position) {
        return unit.getLineMap().getLineNumber(position);
    }

    private void rule(int number, Tree tree, boolean kept) {
        check.due("rule " + number + ", line " + line(positions.getStartPosition(unit, tree)), kept ? 1 : 0, 1);
    }

    @Override
    public Void visitImport(ImportTree tree, Void none) {
        rule(4, tree, !tree.isStatic() && IMPORTS.contains(tree.getQualifiedIdentifier().toString()));
        return super.visitImport(tree, none);
    }

    @Override
    public Void visitClass(ClassTree tree, Void none) {
        if (depth > 0) {
            rule(1, tree, !tree.getModifiers().getFlags().contains(Modifier.PUBLIC));
            rule(2, tree, tree.getModifiers().getFlags().contains(Modifier.STATIC));
        }
        int fields = 0;
        for (Tree member : tree.getMembers()) {
            rule(5, member, member.getKind() != Tree.Kind.BLOCK);
            if (member instanceof VariableTree field) {
                boolean isStatic = field.getModifiers().getFlags().contains(Modifier.STATIC);
                rule(5, field, !isStatic || field.getModifiers().getFlags().contains(Modifier.FINAL));
                fields += isStatic ? 0 : 1;
            }
        }
        rule(11, tree, fields <= 20);
        depth++;
        super.visitClass(tree, none);
        depth--;
        return null;
    }

    @Override
    public Void visitMethod(MethodTree tree, Void none) {
        rule(11, tree, tree.getParameters().size() <= 7);
        long lines = line(positions.getEndPosition(unit, tree)) - line(positions.getStartPosition(unit, tree)) + 1;
        rule(11, tree, lines <= 60);
        String name = tree.getName().toString();
        rule(6, tree, !List.of("equals", "hashCode", "toString").contains(name));
        return super.visitMethod(tree, none);
    }

    @Override
    public Void visitNewClass(NewClassTree tree, Void none) {
        rule(2, tree, tree.getClassBody() == null);
        return super.visitNewClass(tree, none);
    }

    @Override
    public Void visitLambdaExpression(LambdaExpressionTree tree, Void none) {
        rule(2, tree, false);
        return null;
    }

    @Override
    public Void visitMemberReference(MemberReferenceTree tree, Void none) {
        rule(2, tree, false);
        return null;
    }

    @Override
    public Void visitMemberSelect(MemberSelectTree tree, Void none) {
        String of = tree.getExpression().toString();
        String name = tree.getIdentifier().toString();
        rule(4, tree, !name.endsWith("Exact"));
        rule(4, tree, !of.equals("System") || name.equals("arraycopy"));
        rule(4, tree, !of.equals("Arrays") || OF_ARRAYS.contains(name));
        return super.visitMemberSelect(tree, none);
    }

    @Override
    public Void visitThrow(ThrowTree tree, Void none) {
        rule(6, tree, false);
        return null;
    }

    @Override
    public Void visitTry(TryTree tree, Void none) {
        rule(6, tree, false);
        return null;
    }

    @Override
    public Void visitCatch(CatchTree tree, Void none) {
        rule(6, tree, false);
        return null;
    }

    @Override
    public Void visitSynchronized(SynchronizedTree tree, Void none) {
        rule(6, tree, false);
        return null;
    }

    @Override
    public Void visitAssert(AssertTree tree, Void none) {
        rule(6, tree, false);
        return null;
    }

    @Override
    public Void visitWhileLoop(WhileLoopTree tree, Void none) {
        // stricter than rule 9: a for tells its bound in its first line
        rule(9, tree, false);
        return super.visitWhileLoop(tree, none);
    }

    @Override
    public Void visitBinary(BinaryTree tree, Void none) {
        boolean joins = tree.getKind() == Tree.Kind.PLUS && (isText(tree.getLeftOperand()) || isText(tree.getRightOperand()));
        rule(10, tree, !joins);
        return super.visitBinary(tree, none);
    }

    @Override
    public Void visitLiteral(LiteralTree tree, Void none) {
        if (tree.getValue() instanceof String text) {
            rule(4, tree, text.chars().allMatch(sign -> sign >= 1 && sign <= 127));
        }
        return null;
    }

    private static boolean isText(Tree tree) {
        return tree.getKind() == Tree.Kind.STRING_LITERAL;
    }
}
