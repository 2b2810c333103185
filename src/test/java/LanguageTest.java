import com.sun.source.tree.ClassTree;
import com.sun.source.tree.CompilationUnitTree;
import com.sun.source.tree.MethodInvocationTree;
import com.sun.source.tree.MethodTree;
import com.sun.source.tree.NewArrayTree;
import com.sun.source.tree.NewClassTree;
import com.sun.source.tree.Tree;
import com.sun.source.tree.VariableTree;
import com.sun.source.util.JavacTask;
import com.sun.source.util.TreePathScanner;
import com.sun.source.util.Trees;
import java.io.File;
import java.io.IOException;
import java.util.EnumSet;
import java.util.HashMap;
import java.util.List;
import java.util.Map;
import java.util.Set;
import java.util.TreeSet;
import javax.lang.model.element.Element;
import javax.lang.model.element.Modifier;
import javax.tools.JavaCompiler;
import javax.tools.StandardJavaFileManager;
import javax.tools.ToolProvider;

/** Those rules of LANGUAGE.md that can be read off the source: what is not used, how long, how many, how deep. */
final class LanguageTest extends TreePathScanner<Void, Void> {
  private static final String SOURCE = "src/main/java/RoundTypes.java";
  private static final Check CHECK = new Check();
  private static final EnumSet<Tree.Kind> UNUSED = EnumSet.of(Tree.Kind.IMPORT, Tree.Kind.LAMBDA_EXPRESSION,
      Tree.Kind.MEMBER_REFERENCE, Tree.Kind.TRY, Tree.Kind.THROW, Tree.Kind.SYNCHRONIZED, Tree.Kind.ASSERT,
      Tree.Kind.ANNOTATION, Tree.Kind.PACKAGE);

  private final CompilationUnitTree unit;
  private final Trees trees;
  private final Map<String, Set<String>> calls = new HashMap<>();
  private final Set<String> face = new TreeSet<>();
  private String method = "";
  private int classes;

  private LanguageTest(CompilationUnitTree unit, Trees trees) {
    this.unit = unit;
    this.trees = trees;
  }

  @Override
  public Void scan(Tree tree, Void none) {
    if (tree != null) {
      CHECK.due("used: " + tree.getKind(), UNUSED.contains(tree.getKind()) ? 1 : 0, 0);
    }
    return super.scan(tree, none);
  }

  @Override
  public Void visitClass(ClassTree tree, Void none) {
    classes++;
    int fields = 0;
    for (Tree member : tree.getMembers()) {
      if (member instanceof VariableTree field) {
        Set<Modifier> modifiers = field.getModifiers().getFlags();
        boolean constant = modifiers.contains(Modifier.STATIC);
        fields += constant ? 0 : 1;
        CHECK.due("a static field is final: " + field.getName(),
            !constant || modifiers.contains(Modifier.FINAL) ? 1 : 0, 1);
      }
    }
    CHECK.due("few fields in " + tree.getSimpleName(), fields <= 20 ? 1 : 0, 1);
    return super.visitClass(tree, none);
  }

  @Override
  public Void visitMethod(MethodTree tree, Void none) {
    Element owner = trees.getElement(getCurrentPath()).getEnclosingElement();
    method = owner + "." + tree.getName();
    calls.computeIfAbsent(method, k -> new TreeSet<>());
    if (tree.getModifiers().getFlags().contains(Modifier.PUBLIC)) {
      face.add(method);
    }
    long from = trees.getSourcePositions().getStartPosition(unit, tree);
    long to = trees.getSourcePositions().getEndPosition(unit, tree);
    long lines = to < 0 ? 0 : unit.getLineMap().getLineNumber(to) - unit.getLineMap().getLineNumber(from) + 1;
    CHECK.due("short: " + method, lines <= 60 ? 1 : 0, 1);
    CHECK.due("few parameters: " + method, tree.getParameters().size() <= 7 ? 1 : 0, 1);
    super.visitMethod(tree, none);
    method = "";
    return null;
  }

  @Override
  public Void visitMethodInvocation(MethodInvocationTree tree, Void none) {
    Element called = trees.getElement(getCurrentPath());
    if (called != null && !method.isEmpty()) {
      calls.get(method).add(called.getEnclosingElement() + "." + called.getSimpleName());
    }
    return super.visitMethodInvocation(tree, none);
  }

  @Override
  public Void visitNewArray(NewArrayTree tree, Void none) {
    CHECK.due("rows come with the object, not in " + method, method.isEmpty() ? 1 : 0, 1);
    return super.visitNewArray(tree, none);
  }

  @Override
  public Void visitNewClass(NewClassTree tree, Void none) {
    CHECK.due("objects come with the object, not in " + method, method.isEmpty() ? 1 : 0, 1);
    return super.visitNewClass(tree, none);
  }

  private int depth(String name, int above) {
    int deepest = 1;
    if (above > 20) {
      return above;
    }
    for (String called : calls.getOrDefault(name, Set.of())) {
      deepest = Math.max(deepest, 1 + depth(called, above + 1));
    }
    return deepest;
  }

  public static void main(String[] args) throws IOException {
    JavaCompiler compiler = ToolProvider.getSystemJavaCompiler();
    try (StandardJavaFileManager files = compiler.getStandardFileManager(null, null, null)) {
      JavacTask task = (JavacTask) compiler.getTask(null, files, null, List.of("-proc:none"), null,
          files.getJavaFileObjects(new File(SOURCE)));
      CompilationUnitTree unit = task.parse().iterator().next();
      task.analyze();
      LanguageTest test = new LanguageTest(unit, Trees.instance(task));
      test.scan(unit, null);
      CHECK.due("few classes", test.classes <= 12 ? 1 : 0, 1);
      CHECK.due("methods of the face, and its constructor", test.face.size(), 15);
      for (String name : test.face) {
        CHECK.due("calls are few deep, none goes round: " + name, test.depth(name, 1) <= 8 ? 1 : 0, 1);
      }
    }
    CHECK.end();
  }
}
