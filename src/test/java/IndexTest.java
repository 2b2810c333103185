import com.sun.source.tree.ArrayAccessTree;
import com.sun.source.tree.BinaryTree;
import com.sun.source.tree.CompilationUnitTree;
import com.sun.source.tree.CompoundAssignmentTree;
import com.sun.source.tree.ExpressionTree;
import com.sun.source.tree.IdentifierTree;
import com.sun.source.tree.LiteralTree;
import com.sun.source.tree.MethodInvocationTree;
import com.sun.source.tree.MethodTree;
import com.sun.source.tree.NewArrayTree;
import com.sun.source.tree.ParenthesizedTree;
import com.sun.source.tree.PrimitiveTypeTree;
import com.sun.source.tree.Tree;
import com.sun.source.tree.TypeCastTree;
import com.sun.source.tree.VariableTree;
import com.sun.source.util.JavacTask;
import com.sun.source.util.TreeScanner;
import java.io.File;
import java.io.IOException;
import java.util.ArrayList;
import java.util.EnumSet;
import java.util.HashMap;
import java.util.HashSet;
import java.util.List;
import java.util.Map;
import java.util.Set;
import javax.tools.JavaCompiler;
import javax.tools.StandardJavaFileManager;
import javax.tools.ToolProvider;

/**
 * An index is looked at before it is used: whatever an array's index is reckoned from is compared with something in the
 * same method, before the array is used. (Whether it is compared with the right thing is not seen here.) Divisors and
 * the lengths of new arrays are constants, and there is no cast to a class.
 */
final class IndexTest extends TreeScanner<Void, Void> {
  private static final String SOURCE = "src/main/java/RoundTypes.java";
  private static final Check CHECK = new Check();
  private static final EnumSet<Tree.Kind> COMPARED = EnumSet.of(Tree.Kind.LESS_THAN, Tree.Kind.LESS_THAN_EQUAL,
      Tree.Kind.GREATER_THAN, Tree.Kind.GREATER_THAN_EQUAL);
  private static final EnumSet<Tree.Kind> DIVIDES = EnumSet.of(Tree.Kind.DIVIDE, Tree.Kind.REMAINDER,
      Tree.Kind.DIVIDE_ASSIGNMENT, Tree.Kind.REMAINDER_ASSIGNMENT);

  private String method = "";
  private final Set<String> looked = new HashSet<>();
  private final Map<String, ExpressionTree> locals = new HashMap<>();
  private int indexes;

  @Override
  public Void visitMethod(MethodTree tree, Void none) {
    method = tree.getName().toString();
    looked.clear();
    locals.clear();
    return super.visitMethod(tree, none);
  }

  @Override
  public Void visitVariable(VariableTree tree, Void none) {
    if (tree.getInitializer() != null) {
      locals.put(tree.getName().toString(), tree.getInitializer());
    }
    return super.visitVariable(tree, none);
  }

  @Override
  public Void visitBinary(BinaryTree tree, Void none) {
    divisor(tree, tree.getRightOperand());
    super.visitBinary(tree, none);
    if (COMPARED.contains(tree.getKind())) {
      looked.add(tree.getLeftOperand().toString());
      looked.add(tree.getRightOperand().toString());
    }
    return null;
  }

  @Override
  public Void visitCompoundAssignment(CompoundAssignmentTree tree, Void none) {
    divisor(tree, tree.getExpression());
    return super.visitCompoundAssignment(tree, none);
  }

  private static void divisor(Tree tree, ExpressionTree by) {
    CHECK.due("divides by a constant: " + tree, !DIVIDES.contains(tree.getKind()) || isConstant(by) ? 1 : 0, 1);
  }

  @Override
  public Void visitTypeCast(TypeCastTree tree, Void none) {
    CHECK.due("casts to a number: " + tree, tree.getType() instanceof PrimitiveTypeTree ? 1 : 0, 1);
    return super.visitTypeCast(tree, none);
  }

  @Override
  public Void visitNewArray(NewArrayTree tree, Void none) {
    for (ExpressionTree length : tree.getDimensions()) {
      CHECK.due("a length of constants: " + tree, isOfConstants(length) ? 1 : 0, 1);
    }
    return super.visitNewArray(tree, none);
  }

  /** Of has(k) what is asked for is looked at, as much as by a comparison. */
  @Override
  public Void visitMethodInvocation(MethodInvocationTree tree, Void none) {
    super.visitMethodInvocation(tree, none);
    if (tree.getMethodSelect().toString().equals("has")) {
      tree.getArguments().forEach(a -> looked.add(a.toString()));
    }
    return null;
  }

  @Override
  public Void visitArrayAccess(ArrayAccessTree tree, Void none) {
    indexes++;
    CHECK.due("in " + method + " looked at before use: " + tree, isLookedAt(tree.getIndex()) ? 1 : 0, 1);
    return super.visitArrayAccess(tree, none);
  }

  private static boolean isConstant(Tree tree) {
    return tree instanceof LiteralTree
        || tree instanceof IdentifierTree name && name.toString().equals(name.toString().toUpperCase());
  }

  private static boolean isOfConstants(ExpressionTree tree) {
    if (tree instanceof ParenthesizedTree inside) {
      return isOfConstants(inside.getExpression());
    }
    return isConstant(tree)
        || tree instanceof BinaryTree sum && isOfConstants(sum.getLeftOperand()) && isOfConstants(sum.getRightOperand());
  }

  private boolean isLookedAt(ExpressionTree index) {
    if (isConstant(index) || looked.contains(index.toString())) {
      return true;
    }
    if (index instanceof ParenthesizedTree inside) {
      return isLookedAt(inside.getExpression());
    }
    if (index instanceof BinaryTree sum) {
      return isLookedAt(sum.getLeftOperand()) && isLookedAt(sum.getRightOperand());
    }
    return index instanceof IdentifierTree && locals.containsKey(index.toString())
        && isLookedAt(locals.get(index.toString()));
  }

  public static void main(String[] args) throws IOException {
    JavaCompiler compiler = ToolProvider.getSystemJavaCompiler();
    try (StandardJavaFileManager files = compiler.getStandardFileManager(null, null, null)) {
      JavacTask task = (JavacTask) compiler.getTask(null, files, null, List.of("-proc:none"), null,
          files.getJavaFileObjects(new File(SOURCE)));
      List<CompilationUnitTree> units = new ArrayList<>();
      task.parse().forEach(units::add);
      IndexTest test = new IndexTest();
      test.scan(units, null);
      CHECK.due("indexes were seen", test.indexes > 50 ? 1 : 0, 1);
    }
    CHECK.end();
  }
}
