import com.sun.source.tree.AssertTree;
import com.sun.source.tree.BinaryTree;
import com.sun.source.tree.ClassTree;
import com.sun.source.tree.CompilationUnitTree;
import com.sun.source.tree.CompoundAssignmentTree;
import com.sun.source.tree.ConditionalExpressionTree;
import com.sun.source.tree.LambdaExpressionTree;
import com.sun.source.tree.LiteralTree;
import com.sun.source.tree.MemberReferenceTree;
import com.sun.source.tree.MethodInvocationTree;
import com.sun.source.tree.MethodTree;
import com.sun.source.tree.NewClassTree;
import com.sun.source.tree.SynchronizedTree;
import com.sun.source.tree.ThrowTree;
import com.sun.source.tree.TryTree;
import com.sun.source.tree.VariableTree;
import com.sun.source.tree.WhileLoopTree;
import com.sun.source.util.JavacTask;
import com.sun.source.util.TreePath;
import com.sun.source.util.TreePathScanner;
import com.sun.source.util.Trees;
import java.io.File;
import java.lang.reflect.Constructor;
import java.lang.reflect.Method;
import java.lang.reflect.Modifier;
import java.nio.file.Files;
import java.nio.file.Path;
import java.util.ArrayList;
import java.util.Arrays;
import java.util.HashMap;
import java.util.HashSet;
import java.util.List;
import java.util.Map;
import java.util.Set;
import java.util.TreeSet;
import javax.lang.model.element.Element;
import javax.lang.model.element.ElementKind;
import javax.lang.model.type.TypeKind;
import javax.tools.JavaCompiler;
import javax.tools.StandardJavaFileManager;
import javax.tools.ToolProvider;

/** Looks whether src/main/java/Callerhall.java keeps those rules of LANGUAGE.md that can be seen in its text. */
public final class LanguageTests {
  private static final Path SOURCE = Path.of("src/main/java/Callerhall.java");
  private static final Path DOCUMENT = Path.of("../shared/DOC.md");
  private static final Set<String> LIBRARY = Set.of("String.length", "String.charAt", "String.indexOf", "Math.abs",
      "Math.max", "Math.min", "Math.floorMod", "Math.floorDiv", "Object.clone");
  private static final Set<String> THROWN = Set.of("IllegalStateException", "IllegalArgumentException",
      "IndexOutOfBoundsException", "ArithmeticException", "UnsupportedOperationException", "NoSuchElementException");
  private static final Set<String> faults = new TreeSet<>();

  public static void main(String[] args) throws Exception {
    lookAtFace();
    JavaCompiler compiler = ToolProvider.getSystemJavaCompiler();
    StandardJavaFileManager files = compiler.getStandardFileManager(null, null, null);
    JavacTask task = (JavacTask) compiler.getTask(null, files, null, List.of("-proc:none"), null,
        files.getJavaFileObjects(new File(SOURCE.toString())));
    CompilationUnitTree unit = task.parse().iterator().next();
    task.analyze();
    Look look = new Look(unit, Trees.instance(task));
    look.scan(unit, null);
    look.lookAtDepth();
    for (String fault : faults) {
      System.out.println(fault);
    }
    System.out.println(faults.isEmpty() ? "the rules are kept" : faults.size() + " rules are not kept");
    if (!faults.isEmpty()) {
      System.exit(1);
    }
  }

  /** Compares the public members with those of the document. */
  private static void lookAtFace() throws Exception {
    Set<String> due = new TreeSet<>();
    for (String line : Files.readAllLines(DOCUMENT)) {
      String text = line.trim();
      if (text.startsWith("public ") && text.endsWith(";")) {
        String plain = text.substring(7, text.length() - 1).replaceAll("(int|char|boolean|long) \\w+([,)])", "$1$2");
        due.add(plain.replace(", ", ",").replace(" throws ", ":"));
      }
    }
    Set<String> got = new TreeSet<>();
    for (Constructor<?> constructor : Callerhall.class.getDeclaredConstructors()) {
      got.add("Callerhall(" + names(constructor.getParameterTypes()) + ")");
    }
    Set<String> open = new HashSet<>();
    for (Method method : Callerhall.class.getDeclaredMethods()) {
      if (!Modifier.isPrivate(method.getModifiers())) {
        String thrown = names(method.getExceptionTypes());
        open.add(method.getName());
        got.add(method.getReturnType().getSimpleName() + " " + method.getName() + "(" + names(method.getParameterTypes())
            + ")" + (thrown.isEmpty() ? "" : ":" + thrown));
      }
    }
    expect(due.equals(got), "1: the face is " + got + ", due is " + due);
    for (Class<?> inside : Callerhall.class.getDeclaredClasses()) {
      expect(Modifier.isStatic(inside.getModifiers()) && !Modifier.isPublic(inside.getModifiers()), "1: " + inside);
      for (Method method : inside.getDeclaredMethods()) {
        expect(!open.contains(method.getName()), "1: the name of " + method);
      }
    }
    for (Method method : Callerhall.class.getDeclaredMethods()) {
      expect(!Modifier.isPrivate(method.getModifiers()) || !open.contains(method.getName()), "1: the name of " + method);
    }
  }

  private static String names(Class<?>[] types) {
    List<String> names = new ArrayList<>();
    Arrays.stream(types).forEach(type -> names.add(type.getSimpleName()));
    return String.join(",", names);
  }

  private static void expect(boolean isKept, String fault) {
    if (!isKept) {
      faults.add("rule " + fault);
    }
  }

  private static final class Look extends TreePathScanner<Void, Void> {
    private final CompilationUnitTree unit;
    private final Trees trees;
    private final Map<Element, Set<Element>> calls = new HashMap<>();
    private int classes = 0;

    Look(CompilationUnitTree unit, Trees trees) {
      this.unit = unit;
      this.trees = trees;
    }

    private long lineOf(long position) {
      return unit.getLineMap().getLineNumber(position);
    }

    private String here() {
      return "line " + lineOf(trees.getSourcePositions().getStartPosition(unit, getCurrentPath().getLeaf()));
    }

    private Element elementOf(com.sun.source.tree.Tree tree) {
      return trees.getElement(new TreePath(getCurrentPath(), tree));
    }

    private MethodTree method() {
      for (TreePath path = getCurrentPath(); path != null; path = path.getParentPath()) {
        if (path.getLeaf() instanceof MethodTree) {
          return (MethodTree) path.getLeaf();
        }
      }
      return null;
    }

    @Override
    public Void visitClass(ClassTree tree, Void none) {
      classes++;
      int fields = 0;
      for (com.sun.source.tree.Tree member : tree.getMembers()) {
        if (member instanceof VariableTree) {
          boolean isStatic = ((VariableTree) member).getModifiers().getFlags().contains(javax.lang.model.element.Modifier.STATIC);
          boolean isFinal = ((VariableTree) member).getModifiers().getFlags().contains(javax.lang.model.element.Modifier.FINAL);
          fields += isStatic ? 0 : 1;
          expect(!isStatic || isFinal, "5: " + member);
        }
        expect(member.getKind() != com.sun.source.tree.Tree.Kind.BLOCK, "5: " + here());
      }
      expect(fields <= 20, "11: " + fields + " fields in " + tree.getSimpleName());
      expect(classes <= 12, "11: too many classes");
      return super.visitClass(tree, none);
    }

    @Override
    public Void visitMethod(MethodTree tree, Void none) {
      long from = lineOf(trees.getSourcePositions().getStartPosition(unit, tree));
      long to = lineOf(trees.getSourcePositions().getEndPosition(unit, tree));
      expect(to - from < 60, "11: " + (to - from + 1) + " lines in " + tree.getName());
      expect(tree.getParameters().size() <= 7, "11: parameters of " + tree.getName());
      calls.computeIfAbsent(trees.getElement(getCurrentPath()), e -> new HashSet<>());
      return super.visitMethod(tree, none);
    }

    @Override
    public Void visitMethodInvocation(MethodInvocationTree tree, Void none) {
      Element called = elementOf(tree.getMethodSelect());
      String owner = called.getEnclosingElement().toString();
      if (owner.startsWith("Callerhall")) {
        MethodTree caller = method();
        if (caller != null) {
          calls.computeIfAbsent(elementOfMethod(), e -> new HashSet<>()).add(called);
        }
      } else {
        String name = called.getEnclosingElement().getSimpleName() + "." + called.getSimpleName();
        expect(LIBRARY.contains(name) || called.getKind() == ElementKind.CONSTRUCTOR, "4: " + name + ", " + here());
      }
      return super.visitMethodInvocation(tree, none);
    }

    private Element elementOfMethod() {
      TreePath path = getCurrentPath();
      while (!(path.getLeaf() instanceof MethodTree)) {
        path = path.getParentPath();
      }
      return trees.getElement(path);
    }

    @Override
    public Void visitNewClass(NewClassTree tree, Void none) {
      String name = tree.getIdentifier().toString();
      boolean isThrown = getCurrentPath().getParentPath().getLeaf() instanceof ThrowTree;
      expect(isThrown ? THROWN.contains(name) : elementOf(tree.getIdentifier()).toString().startsWith("Callerhall"),
          "6 or 12: new " + name + ", " + here());
      return super.visitNewClass(tree, none);
    }

    @Override
    public Void visitThrow(ThrowTree tree, Void none) {
      expect(tree.getExpression() instanceof NewClassTree, "6: " + here());
      expect(method() != null && !method().getName().contentEquals("<init>"), "6: " + here());
      return super.visitThrow(tree, none);
    }

    @Override
    public Void visitBinary(BinaryTree tree, Void none) {
      expectNoText(tree.getLeftOperand());
      expectNoText(tree.getRightOperand());
      return super.visitBinary(tree, none);
    }

    private void expectNoText(com.sun.source.tree.Tree operand) {
      TreePath path = new TreePath(getCurrentPath(), operand);
      boolean isText = trees.getTypeMirror(path).getKind() == TypeKind.DECLARED
          && trees.getTypeMirror(path).toString().equals("java.lang.String");
      expect(!isText, "10: " + here());
    }

    @Override
    public Void visitCompoundAssignment(CompoundAssignmentTree tree, Void none) {
      expectNoText(tree.getVariable());
      return super.visitCompoundAssignment(tree, none);
    }

    @Override
    public Void visitConditionalExpression(ConditionalExpressionTree tree, Void none) {
      return super.visitConditionalExpression(tree, none);
    }

    @Override
    public Void visitLiteral(LiteralTree tree, Void none) {
      expect(!(tree.getValue() instanceof String) || tree.getValue().toString().chars().allMatch(c -> c > 0 && c < 128),
          "4: " + here());
      return super.visitLiteral(tree, none);
    }

    @Override
    public Void visitWhileLoop(WhileLoopTree tree, Void none) {
      String condition = tree.getCondition().toString();
      expect(condition.contains("<") || condition.contains(">"), "9: " + here());
      return super.visitWhileLoop(tree, none);
    }

    @Override
    public Void visitLambdaExpression(LambdaExpressionTree tree, Void none) {
      expect(false, "2: " + here());
      return super.visitLambdaExpression(tree, none);
    }

    @Override
    public Void visitMemberReference(MemberReferenceTree tree, Void none) {
      expect(false, "2: " + here());
      return super.visitMemberReference(tree, none);
    }

    @Override
    public Void visitAssert(AssertTree tree, Void none) {
      expect(false, "6: " + here());
      return super.visitAssert(tree, none);
    }

    @Override
    public Void visitSynchronized(SynchronizedTree tree, Void none) {
      expect(false, "6: " + here());
      return super.visitSynchronized(tree, none);
    }

    @Override
    public Void visitTry(TryTree tree, Void none) {
      expect(false, "6: the class has no use for try, " + here());
      return super.visitTry(tree, none);
    }

    void lookAtDepth() {
      for (Element method : calls.keySet()) {
        depthOf(method, new ArrayList<>());
      }
    }

    private void depthOf(Element method, List<Element> chain) {
      expect(!chain.contains(method), "8: recursion of " + method);
      if (chain.contains(method)) {
        return;
      }
      List<Element> longer = new ArrayList<>(chain);
      longer.add(method);
      expect(longer.size() <= 8, "11: calls go deeper than eight, " + longer);
      for (Element called : calls.getOrDefault(method, Set.of())) {
        depthOf(called, longer);
      }
    }
  }
}
