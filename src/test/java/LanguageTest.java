import com.sun.source.tree.AssertTree;
import com.sun.source.tree.BinaryTree;
import com.sun.source.tree.ClassTree;
import com.sun.source.tree.CompilationUnitTree;
import com.sun.source.tree.ImportTree;
import com.sun.source.tree.LambdaExpressionTree;
import com.sun.source.tree.LiteralTree;
import com.sun.source.tree.MemberReferenceTree;
import com.sun.source.tree.MethodInvocationTree;
import com.sun.source.tree.MethodTree;
import com.sun.source.tree.NewArrayTree;
import com.sun.source.tree.NewClassTree;
import com.sun.source.tree.SynchronizedTree;
import com.sun.source.tree.ThrowTree;
import com.sun.source.tree.Tree;
import com.sun.source.tree.TryTree;
import com.sun.source.tree.VariableTree;
import com.sun.source.util.JavacTask;
import com.sun.source.util.TreePath;
import com.sun.source.util.TreePathScanner;
import com.sun.source.util.Trees;
import java.io.File;
import java.util.HashMap;
import java.util.HashSet;
import java.util.LinkedHashSet;
import java.util.List;
import java.util.Map;
import java.util.Set;
import javax.lang.model.element.Element;
import javax.lang.model.element.ExecutableElement;
import javax.lang.model.element.Modifier;
import javax.lang.model.element.TypeElement;
import javax.tools.JavaCompiler;
import javax.tools.StandardJavaFileManager;
import javax.tools.ToolProvider;

/** src/main/java/KeptAnswers.java keeps to the rules of LANGUAGE.md that a reader of trees can see. */
final class LanguageTest extends TreePathScanner<Void, Void> {
  private static final Set<String> FACE = Set.of("in", "out", "undo", "key", "rows", "put", "read", "feed",
      "ask", "view", "answer", "steps", "end", "within", "same", "shows", "show", "cover", "covers", "may",
      "keep", "worlds", "sure", "besides", "weight", "size", "set", "cost", "which", "hours", "latest",
      "given", "plan", "image", "restore", "count");
  private static final Set<String> LIBRARY = Set.of("java.lang.Math.max", "java.lang.Math.min",
      "java.lang.Integer.bitCount", "java.lang.Long.bitCount", "java.lang.System.arraycopy",
      "java.util.Arrays.fill");
  private static final int CALLS_DEEP = 8;

  private final Due due;
  private final CompilationUnitTree unit;
  private final Trees trees;
  private final Map<Element, Set<Element>> calls = new HashMap<>();
  private final Set<String> publicMethods = new HashSet<>();
  private int classes;

  private LanguageTest(Due due, CompilationUnitTree unit, Trees trees) {
    this.due = due;
    this.unit = unit;
    this.trees = trees;
  }

  private long lineOf(Tree tree) {
    return unit.getLineMap().getLineNumber(trees.getSourcePositions().getStartPosition(unit, tree));
  }

  private long linesOf(Tree tree) {
    long end = trees.getSourcePositions().getEndPosition(unit, tree);
    return unit.getLineMap().getLineNumber(end) - lineOf(tree) + 1;
  }

  private void rule(int number, Tree tree, String told, boolean holds) {
    due.is("rule " + number + ", line " + lineOf(tree) + ": " + told, holds ? 1 : 0, 1);
  }

  private Tree enclosing(Class<? extends Tree> kind) {
    for (TreePath path = getCurrentPath().getParentPath(); path != null; path = path.getParentPath()) {
      if (kind.isInstance(path.getLeaf())) {
        return path.getLeaf();
      }
    }
    return null;
  }

  @Override public Void visitImport(ImportTree tree, Void none) {
    rule(4, tree, "import", tree.getQualifiedIdentifier().toString().equals("java.util.Arrays"));
    return super.visitImport(tree, none);
  }

  @Override public Void visitClass(ClassTree tree, Void none) {
    classes++;
    boolean isFace = enclosing(ClassTree.class) == null;
    Set<Modifier> modifiers = tree.getModifiers().getFlags();
    if (isFace) {
      rule(1, tree, "public final class", modifiers.equals(Set.of(Modifier.PUBLIC, Modifier.FINAL)));
    } else {
      rule(2, tree, "static class", modifiers.contains(Modifier.STATIC) && !modifiers.contains(Modifier.PUBLIC));
      rule(2, tree, "no local class", enclosing(MethodTree.class) == null);
    }
    int fields = 0;
    for (Tree member : tree.getMembers()) {
      if (member instanceof VariableTree field) {
        Set<Modifier> flags = field.getModifiers().getFlags();
        boolean isConstant = flags.contains(Modifier.STATIC);
        fields += isConstant ? 0 : 1;
        rule(5, field, "static fields are final", !isConstant || flags.contains(Modifier.FINAL));
        rule(1, field, "fields of the face are private", !isFace || flags.contains(Modifier.PRIVATE));
      }
      rule(5, member, "no initialiser block", member.getKind() != Tree.Kind.BLOCK);
    }
    rule(11, tree, "20 fields at most", fields <= 20);
    return super.visitClass(tree, none);
  }

  @Override public Void visitMethod(MethodTree tree, Void none) {
    ClassTree owner = (ClassTree) enclosing(ClassTree.class);
    Set<Modifier> flags = tree.getModifiers().getFlags();
    String name = tree.getName().toString();
    boolean isFace = owner.getSimpleName().contentEquals("KeptAnswers");
    boolean isNamed = FACE.contains(name) || name.equals("<init>");
    boolean isPublic = flags.contains(Modifier.PUBLIC);
    if (isFace) {
      rule(1, tree, name + " is public just if the document names it", isPublic == isNamed);
      rule(1, tree, name + " is public or private", isPublic || flags.contains(Modifier.PRIVATE));
    } else {
      rule(1, tree, name + " has no name of the face", !FACE.contains(name) && !isPublic);
      rule(6, tree, name, !Set.of("equals", "hashCode", "toString").contains(name));
    }
    if (isFace && isPublic && !name.equals("<init>")) {
      publicMethods.add(name);
    }
    rule(11, tree, name + " has 7 parameters at most", tree.getParameters().size() <= 7);
    rule(11, tree, name + " has 60 lines at most", linesOf(tree) <= 60);
    calls.putIfAbsent(trees.getElement(getCurrentPath()), new LinkedHashSet<>());
    return super.visitMethod(tree, none);
  }

  @Override public Void visitMethodInvocation(MethodInvocationTree tree, Void none) {
    TreePath called = new TreePath(getCurrentPath(), tree.getMethodSelect());
    ExecutableElement method = (ExecutableElement) trees.getElement(called);
    TypeElement owner = (TypeElement) method.getEnclosingElement();
    String name = owner.getQualifiedName() + "." + method.getSimpleName();
    boolean isOwn = name.startsWith("KeptAnswers");
    boolean isSuper = method.getSimpleName().contentEquals("<init>");
    boolean isClone = method.getSimpleName().contentEquals("clone");
    rule(4, tree, name, isOwn || isSuper || isClone || LIBRARY.contains(name));
    Tree caller = enclosing(MethodTree.class);
    if (isOwn && caller != null) {
      Element from = trees.getElement(trees.getPath(unit, caller));
      calls.computeIfAbsent(from, key -> new LinkedHashSet<>()).add(method);
    }
    return super.visitMethodInvocation(tree, none);
  }

  /** All is made with the object itself, so that calls want no room. */
  private void made(Tree tree) {
    MethodTree in = (MethodTree) enclosing(MethodTree.class);
    rule(12, tree, "made with the object", in == null || in.getName().contentEquals("<init>"));
  }

  @Override public Void visitNewClass(NewClassTree tree, Void none) {
    made(tree);
    rule(2, tree, "no anonymous class", tree.getClassBody() == null);
    return super.visitNewClass(tree, none);
  }

  @Override public Void visitNewArray(NewArrayTree tree, Void none) {
    made(tree);
    return super.visitNewArray(tree, none);
  }

  @Override public Void visitBinary(BinaryTree tree, Void none) {
    boolean isText = tree.getLeftOperand() instanceof LiteralTree literal && literal.getValue() instanceof String;
    rule(10, tree, "no texts joined", !isText);
    return super.visitBinary(tree, none);
  }

  @Override public Void visitThrow(ThrowTree tree, Void none) {
    rule(6, tree, "throw", false);
    return super.visitThrow(tree, none);
  }

  @Override public Void visitTry(TryTree tree, Void none) {
    rule(6, tree, "try", false);
    return super.visitTry(tree, none);
  }

  @Override public Void visitAssert(AssertTree tree, Void none) {
    rule(6, tree, "assert", false);
    return super.visitAssert(tree, none);
  }

  @Override public Void visitSynchronized(SynchronizedTree tree, Void none) {
    rule(6, tree, "synchronized", false);
    return super.visitSynchronized(tree, none);
  }

  @Override public Void visitLambdaExpression(LambdaExpressionTree tree, Void none) {
    rule(2, tree, "lambda", false);
    return super.visitLambdaExpression(tree, none);
  }

  @Override public Void visitMemberReference(MemberReferenceTree tree, Void none) {
    rule(2, tree, "method reference", false);
    return super.visitMemberReference(tree, none);
  }

  /** How many calls stand open at once, a method that calls itself counted once. */
  private int depthOf(Element method, Set<Element> open) {
    int deepest = 0;
    open.add(method);
    for (Element called : calls.getOrDefault(method, Set.of())) {
      if (called.equals(method)) {
        due.is("rule 8: " + method + " is private static", isPrivateStatic(method) ? 1 : 0, 1);
      } else {
        due.is("rule 8: " + called + " calls back", open.contains(called) ? 1 : 0, 0);
        deepest = Math.max(deepest, depthOf(called, open));
      }
    }
    open.remove(method);
    return 1 + deepest;
  }

  private static boolean isPrivateStatic(Element method) {
    return method.getModifiers().containsAll(Set.of(Modifier.PRIVATE, Modifier.STATIC));
  }

  private void whole() {
    due.is("rule 1: all methods of the face", publicMethods.equals(FACE) ? 1 : 0, 1);
    due.is("rule 11: 12 classes at most, there are " + classes, classes <= 12 ? 1 : 0, 1);
    for (Element method : calls.keySet()) {
      int depth = depthOf(method, new HashSet<>());
      due.is("rule 11: " + method + " goes " + depth + " deep", depth <= CALLS_DEEP ? 1 : 0, 1);
    }
  }

  public static void main(String[] args) throws Exception {
    Due due = new Due("LanguageTest");
    JavaCompiler compiler = ToolProvider.getSystemJavaCompiler();
    try (StandardJavaFileManager files = compiler.getStandardFileManager(null, null, null)) {
      File source = new File("src/main/java/KeptAnswers.java");
      JavacTask task = (JavacTask) compiler.getTask(null, files, null, null, null, files.getJavaFileObjects(source));
      List<CompilationUnitTree> units = new java.util.ArrayList<>();
      task.parse().forEach(units::add);
      task.analyze();
      for (CompilationUnitTree unit : units) {
        LanguageTest test = new LanguageTest(due, unit, Trees.instance(task));
        test.scan(unit, null);
        test.whole();
      }
    }
    due.close();
  }
}
