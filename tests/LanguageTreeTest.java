import com.sun.source.tree.*;
import com.sun.source.util.JavacTask;
import com.sun.source.util.TreePath;
import com.sun.source.util.TreePathScanner;
import com.sun.source.util.TreeScanner;
import com.sun.source.util.Trees;
import java.nio.file.Path;
import java.util.ArrayList;
import java.util.HashSet;
import java.util.LinkedHashMap;
import java.util.List;
import java.util.Map;
import java.util.Set;
import java.util.TreeSet;
import javax.lang.model.element.Element;
import javax.lang.model.element.ElementKind;
import javax.lang.model.element.ExecutableElement;
import javax.lang.model.element.Modifier;
import javax.lang.model.element.VariableElement;
import javax.lang.model.type.TypeMirror;
import javax.tools.JavaCompiler;
import javax.tools.StandardJavaFileManager;
import javax.tools.ToolProvider;

/** The rules of LANGUAGE.md that can be seen in the tree that the compiler makes of the class. */
public final class LanguageTreeTest extends TreePathScanner<Void, Void> {
  private static final Set<String> LIBRARY = Set.of("java.lang.String.charAt", "java.lang.String.indexOf", "java.lang.Math.abs",
      "java.lang.Math.max", "java.lang.Math.min", "java.lang.System.arraycopy", "java.util.Arrays.fill");
  private static final Set<String> NUMBERS = Set.of("int", "long", "short", "byte", "char", "boolean");
  /** Each carries how deep it is, or what it has gone through, as an argument. */
  private static final Set<String> RECURSIVE = Set.of("Reader.readsChoice", "Reader.readsSingle", "Bench.roams");
  private static final int MOST_DEEP = 8;

  private final Check c = new Check();
  private final Trees trees;
  private final CompilationUnitTree unit;
  private final Map<String, Set<String>> calls = new LinkedHashMap<>();
  private final Set<String> hidden = new HashSet<>();
  private final Set<String> faces = new TreeSet<>();
  private String inside = "";
  private boolean makes = true;

  private LanguageTreeTest(Trees trees, CompilationUnitTree unit) { this.trees = trees; this.unit = unit; }

  private void wrong(int rule, String what, Tree at) {
    long line = unit.getLineMap().getLineNumber(trees.getSourcePositions().getStartPosition(unit, at));
    c.due("rule " + rule + ", line " + line + ": " + what, 1, 0);
  }
  private static String nameOf(Element method) {
    return method.getEnclosingElement().getSimpleName() + "." + method.getSimpleName();
  }
  private static boolean isOwn(String name) { return name.equals("LarkExchange") || name.startsWith("LarkExchange."); }
  private TypeMirror typeOf(Tree t) { return trees.getTypeMirror(TreePath.getPath(unit, t)); }

  // ---- rule 4, 8, 11: what is called
  @Override public Void visitMethod(MethodTree m, Void v) {
    ExecutableElement e = (ExecutableElement) trees.getElement(getCurrentPath());
    inside = nameOf(e);
    makes = e.getKind() == ElementKind.CONSTRUCTOR;
    if (!makes) calls.computeIfAbsent(inside, k -> new TreeSet<>());
    if (e.getModifiers().contains(Modifier.PRIVATE)) hidden.add(inside);
    if (e.getModifiers().contains(Modifier.PUBLIC) && !makes) faces.add(inside);
    c.due("rule 11: " + inside + " takes seven at most", m.getParameters().size() <= 7, true);
    super.visitMethod(m, v);
    inside = "";
    makes = true;
    return null;
  }
  @Override public Void visitMethodInvocation(MethodInvocationTree call, Void v) {
    Element e = trees.getElement(new TreePath(getCurrentPath(), call.getMethodSelect()));
    if (e.getKind() != ElementKind.CONSTRUCTOR) {
      String owner = e.getEnclosingElement().toString();
      if (isOwn(owner)) calls.computeIfAbsent(inside, k -> new TreeSet<>()).add(nameOf(e));
      else if (!LIBRARY.contains(owner + "." + e.getSimpleName())) wrong(4, "calls " + owner + "." + e, call);
    }
    return super.visitMethodInvocation(call, v);
  }
  private int deepest(String from, Set<String> open) {
    int most = 0;
    open.add(from);
    for (String to : calls.getOrDefault(from, Set.of())) if (!open.contains(to)) most = Math.max(most, deepest(to, open));
    open.remove(from);
    return most + 1;
  }
  private boolean reaches(String from, String to, Set<String> seen) {
    for (String next : calls.getOrDefault(from, Set.of()))
      if (next.equals(to) || seen.add(next) && reaches(next, to, seen)) return true;
    return false;
  }
  private void looksAtCalls() {
    for (String face : faces) {
      int deep = deepest(face, new HashSet<>());
      c.due("rule 11: " + face + " goes eight deep at most, and goes " + deep, deep <= MOST_DEEP, true);
    }
    Set<String> found = new TreeSet<>();
    for (String one : calls.keySet()) if (reaches(one, one, new HashSet<>())) found.add(one);
    c.due("rule 8: what comes back to itself: " + found, found.equals(RECURSIVE), true);
    for (String one : found) c.due("rule 8: " + one + " is private", hidden.contains(one), true);
  }

  // ---- rule 9: loops
  @Override public Void visitForLoop(ForLoopTree loop, Void v) {
    Set<String> counters = new HashSet<>();
    for (StatementTree s : loop.getInitializer()) if (s instanceof VariableTree one) counters.add(one.getName().toString());
    if (loop.getCondition() == null) wrong(9, "a loop without an end", loop);
    if (loop.getUpdate().size() != 1 || !goesOn(loop.getUpdate().get(0).getExpression())) wrong(9, "a loop whose counter goes by no constant", loop);
    new TreeScanner<Void, Void>() {
      @Override public Void visitAssignment(AssignmentTree a, Void w) { seen(a.getVariable(), a); return super.visitAssignment(a, w); }
      @Override public Void visitCompoundAssignment(CompoundAssignmentTree a, Void w) { seen(a.getVariable(), a); return super.visitCompoundAssignment(a, w); }
      @Override public Void visitUnary(UnaryTree u, Void w) {
        if (isStep(u.getKind())) seen(u.getExpression(), u);
        return super.visitUnary(u, w);
      }
      private void seen(Tree what, Tree at) {
        if (counters.contains(what.toString())) wrong(9, "the loop's own counter " + what + " is told anew in it", at);
      }
    }.scan(loop.getStatement(), null);
    return super.visitForLoop(loop, v);
  }
  private static boolean isStep(Tree.Kind kind) {
    return kind == Tree.Kind.POSTFIX_INCREMENT || kind == Tree.Kind.POSTFIX_DECREMENT
        || kind == Tree.Kind.PREFIX_INCREMENT || kind == Tree.Kind.PREFIX_DECREMENT;
  }
  /** A step by one, or by a number that can be seen not to be 0. */
  private static boolean goesOn(Tree step) {
    if (step instanceof UnaryTree u) return isStep(u.getKind());
    return step instanceof CompoundAssignmentTree a && isNumber(a.getExpression());
  }
  private static boolean isNumber(Tree t) {
    if (t instanceof ConditionalExpressionTree q) return isNumber(q.getTrueExpression()) && isNumber(q.getFalseExpression());
    if (t instanceof ParenthesizedTree p) return isNumber(p.getExpression());
    return t instanceof LiteralTree l && l.getValue() instanceof Integer n && n > 0;
  }
  /** A counter stands against a bound in what is asked, and goes by one in the loop. */
  @Override public Void visitWhileLoop(WhileLoopTree loop, Void v) {
    Set<String> bounded = new HashSet<>(), stepped = new HashSet<>();
    new TreeScanner<Void, Void>() {
      @Override public Void visitBinary(BinaryTree b, Void w) {
        if (b.getKind() == Tree.Kind.LESS_THAN) bounded.add(b.getLeftOperand().toString());
        return super.visitBinary(b, w);
      }
    }.scan(loop.getCondition(), null);
    new TreeScanner<Void, Void>() {
      @Override public Void visitUnary(UnaryTree u, Void w) { if (isStep(u.getKind())) stepped.add(u.getExpression().toString()); return super.visitUnary(u, w); }
    }.scan(loop.getStatement(), null);
    bounded.retainAll(stepped);
    if (bounded.isEmpty()) wrong(9, "a loop without a counter against a bound", loop);
    return super.visitWhileLoop(loop, v);
  }
  @Override public Void visitDoWhileLoop(DoWhileLoopTree loop, Void v) { wrong(9, "do is not used here", loop); return super.visitDoWhileLoop(loop, v); }

  // ---- rule 2, 6, 10: what is not written
  @Override public Void visitLambdaExpression(LambdaExpressionTree t, Void v) { wrong(2, "a lambda", t); return null; }
  @Override public Void visitMemberReference(MemberReferenceTree t, Void v) { wrong(2, "a method reference", t); return null; }
  @Override public Void visitThrow(ThrowTree t, Void v) { wrong(6, "throw", t); return null; }
  @Override public Void visitTry(TryTree t, Void v) { wrong(6, "try", t); return null; }
  @Override public Void visitSynchronized(SynchronizedTree t, Void v) { wrong(6, "synchronized", t); return null; }
  @Override public Void visitAssert(AssertTree t, Void v) { wrong(6, "assert", t); return null; }
  @Override public Void visitInstanceOf(InstanceOfTree t, Void v) { wrong(6, "instanceof is not used here", t); return null; }
  @Override public Void visitTypeCast(TypeCastTree t, Void v) {
    if (!typeOf(t).getKind().isPrimitive()) wrong(6, "a cast to " + typeOf(t), t);
    return super.visitTypeCast(t, v);
  }
  @Override public Void visitBinary(BinaryTree b, Void v) {
    boolean bare = typeOf(b.getLeftOperand()).getKind().isPrimitive() && typeOf(b.getRightOperand()).getKind().isPrimitive();
    if (!bare) wrong(6, b.getKind() + " of what is no number", b);
    return super.visitBinary(b, v);
  }

  // ---- rule 3, 5, 12: what is held and what is made
  @Override public Void visitVariable(VariableTree t, Void v) {
    VariableElement e = (VariableElement) trees.getElement(getCurrentPath());
    String type = e.asType().toString();
    String part = type.endsWith("[]") ? type.substring(0, type.length() - 2) : type;
    if (!NUMBERS.contains(part) && !type.equals("java.lang.String") && !isOwn(part)) wrong(3, "of type " + type, t);
    if (e.getModifiers().contains(Modifier.STATIC)) {
      boolean isRow = type.endsWith("[]") && t.getInitializer() instanceof NewArrayTree row && row.getInitializers() != null;
      if (!e.getModifiers().contains(Modifier.FINAL) || !isRow && e.getConstantValue() == null) wrong(5, "static " + t.getName(), t);
    }
    return super.visitVariable(t, v);
  }
  @Override public Void visitBlock(BlockTree t, Void v) {
    if (getCurrentPath().getParentPath().getLeaf() instanceof ClassTree) wrong(5, "an initialiser block", t);
    return super.visitBlock(t, v);
  }
  @Override public Void visitNewClass(NewClassTree t, Void v) {
    if (!makes) wrong(12, "an object is made in a call: " + t, t);
    if (t.getClassBody() != null) wrong(2, "an anonymous class", t);
    return super.visitNewClass(t, v);
  }
  @Override public Void visitNewArray(NewArrayTree t, Void v) {
    if (!makes) wrong(12, "a row is made in a call: " + t, t);
    return super.visitNewArray(t, v);
  }

  public static void main(String[] args) throws Exception {
    JavaCompiler compiler = ToolProvider.getSystemJavaCompiler();
    try (StandardJavaFileManager files = compiler.getStandardFileManager(null, null, null)) {
      JavacTask task = (JavacTask) compiler.getTask(null, files, null, List.of("-proc:none"), null,
          files.getJavaFileObjects(Path.of("src/main/java/LarkExchange.java")));
      List<CompilationUnitTree> units = new ArrayList<>();
      for (CompilationUnitTree one : task.parse()) units.add(one);
      task.analyze();
      LanguageTreeTest t = new LanguageTreeTest(Trees.instance(task), units.get(0));
      t.scan(units.get(0), null);
      t.c.due("the whole face was seen", t.faces.size(), 38);
      t.looksAtCalls();
      t.c.ends();
    }
  }
}
