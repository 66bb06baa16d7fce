import com.sun.source.tree.*;
import com.sun.source.util.JavacTask;
import com.sun.source.util.TreePath;
import com.sun.source.util.TreePathScanner;
import com.sun.source.util.Trees;
import java.nio.file.Path;
import java.util.ArrayList;
import java.util.HashMap;
import java.util.HashSet;
import java.util.LinkedHashMap;
import java.util.LinkedHashSet;
import java.util.List;
import java.util.Map;
import java.util.Set;
import javax.lang.model.element.Element;
import javax.lang.model.element.ElementKind;
import javax.lang.model.element.ExecutableElement;
import javax.lang.model.element.Modifier;
import javax.lang.model.element.TypeElement;
import javax.lang.model.element.VariableElement;
import javax.lang.model.type.ArrayType;
import javax.lang.model.type.DeclaredType;
import javax.lang.model.type.TypeKind;
import javax.lang.model.type.TypeMirror;
import javax.tools.JavaCompiler;
import javax.tools.StandardJavaFileManager;
import javax.tools.ToolProvider;

/**
 * The rules of ../shared/LANGUAGE.md, read off the class as the compiler understands it: LanguageTest sees the face and the
 * bare text, this one each type, call, loop and cast, and how deep calls go. A label begins with the rule's number.
 */
public final class RulesTest extends TreePathScanner<Void, Void> {
  private static final String OWN = "StandRank";
  private static final Set<String> LIBRARY = Set.of("String.length", "String.charAt", "String.isEmpty", "String.equals",
    "String.indexOf", "String.substring", "String.toCharArray", "StringBuilder.append", "StringBuilder.charAt",
    "StringBuilder.setCharAt", "StringBuilder.setLength", "StringBuilder.deleteCharAt", "StringBuilder.reverse",
    "StringBuilder.length", "StringBuilder.toString", "System.arraycopy", "Arrays.copyOf", "Arrays.copyOfRange", "Arrays.fill");
  private static final Set<String> FUNCTIONS = Set.of("Math", "Integer", "Long");
  private static final Set<String> MADE = Set.of("String", "StringBuilder", "ArrayList");
  private static final Set<String> HELD = Set.of("String", "StringBuilder", "ArrayList", "List", "Integer");
  private static final Set<String> MAKERS = Set.of("Reader.readCourt", "Reader.readLine");
  private static final int MOST_LINES = 60;
  private static final int MOST_DEEP = 8;
  private static final int MOST_OPEN = 300;
  /** Six within one another, or seven MINUTES, and the level behind them. */
  private static final int LEVELS = 8;

  private final Trees trees;
  private final CompilationUnitTree unit;
  private final Map<String, Set<String>> calls = new LinkedHashMap<>();
  private final Map<String, MethodTree> methods = new HashMap<>();
  private final Map<String, ExecutableElement> elements = new HashMap<>();
  private int classes;
  private int loops;

  private RulesTest(Trees trees, CompilationUnitTree unit) {
    this.trees = trees;
    this.unit = unit;
  }

  public static void main(String[] args) throws Exception {
    JavaCompiler compiler = ToolProvider.getSystemJavaCompiler();
    StandardJavaFileManager files = compiler.getStandardFileManager(null, null, null);
    JavacTask task = (JavacTask) compiler.getTask(null, files, null, List.of("-proc:none"), null,
      files.getJavaFileObjects(Path.of("src/main/java/StandRank.java")));
    CompilationUnitTree unit = task.parse().iterator().next();
    task.analyze();
    RulesTest t = new RulesTest(Trees.instance(task), unit);
    t.scan(unit, null);
    t.must(t.classes <= 12, "11: " + t.classes + " classes");
    t.must(unit.getPackageName() == null && unit.getTypeDecls().size() == 1, "the file: one class, no package line");
    t.names();
    t.depths();
    Check.end();
  }

  private void must(boolean kept, String rule) {
    Check.due(rule, kept ? 1 : 0, 1);
  }

  private String at(Tree tree) {
    return " at line " + unit.getLineMap().getLineNumber(trees.getSourcePositions().getStartPosition(unit, tree));
  }

  private static String simple(String name) {
    return name.substring(name.lastIndexOf('.') + 1);
  }

  private boolean isOwn(Element e) {
    Element k = e;
    while (k != null && !(k instanceof TypeElement && k.getEnclosingElement().getKind() == ElementKind.PACKAGE)) k = k.getEnclosingElement();
    return k != null && k.toString().equals(OWN);
  }

  private static String nameOf(ExecutableElement e) {
    String name = e.getKind() == ElementKind.CONSTRUCTOR ? "new" : e.getSimpleName().toString();
    return e.getEnclosingElement().getSimpleName() + "." + name;
  }

  private String methodAround() {
    for (TreePath p = getCurrentPath(); p != null; p = p.getParentPath()) {
      if (p.getLeaf() instanceof MethodTree) return nameOf((ExecutableElement) trees.getElement(p));
    }
    return "field";
  }

  private boolean isWithinLoop() {
    for (TreePath p = getCurrentPath(); p != null && !(p.getLeaf() instanceof MethodTree); p = p.getParentPath()) {
      if (p.getLeaf() instanceof ForLoopTree || p.getLeaf() instanceof WhileLoopTree || p.getLeaf() instanceof DoWhileLoopTree) return true;
    }
    return false;
  }

  private TypeMirror typeOf(Tree tree) {
    return trees.getTypeMirror(new TreePath(getCurrentPath(), tree));
  }

  private static boolean isText(TypeMirror t) {
    return t != null && (t.toString().equals("java.lang.String") || t.toString().equals("java.lang.Integer"));
  }

  // ---- rules 2, 5, 11: classes and their fields

  @Override
  public Void visitClass(ClassTree c, Void v) {
    classes++;
    Element e = trees.getElement(getCurrentPath());
    Tree around = getCurrentPath().getParentPath().getLeaf();
    must(around instanceof CompilationUnitTree || around instanceof ClassTree, "2: a local or an anonymous class" + at(c));
    must(around instanceof CompilationUnitTree || e.getModifiers().contains(Modifier.STATIC), "2: not static " + e);
    int fields = 0;
    for (Tree member : c.getMembers()) {
      must(!(member instanceof BlockTree), "5: a block of its own" + at(member));
      if (member instanceof VariableTree && !((VariableTree) member).getModifiers().getFlags().contains(Modifier.STATIC)) fields++;
    }
    must(fields <= 20, "11: " + e + " has " + fields + " fields");
    return super.visitClass(c, v);
  }

  @Override
  public Void visitVariable(VariableTree f, Void v) {
    VariableElement e = (VariableElement) trees.getElement(getCurrentPath());
    must(isAllowed(e.asType(), 0), "3: the type of " + f.getName() + at(f));
    if (e.getModifiers().contains(Modifier.STATIC)) {
      must(e.getModifiers().contains(Modifier.FINAL), "5: not final " + f.getName() + at(f));
      must(e.getConstantValue() != null, "5: no constant " + f.getName() + at(f));
    }
    return super.visitVariable(f, v);
  }

  private boolean isAllowed(TypeMirror t, int dimensions) {
    if (t.getKind() == TypeKind.ARRAY) return dimensions < 2 && isAllowed(((ArrayType) t).getComponentType(), dimensions + 1);
    if (t.getKind() == TypeKind.DOUBLE || t.getKind() == TypeKind.FLOAT) return false;
    if (t.getKind().isPrimitive()) return true;
    if (t.getKind() != TypeKind.DECLARED || dimensions > 1) return false;
    Element e = ((DeclaredType) t).asElement();
    return isOwn(e) || dimensions == 0 && HELD.contains(e.getSimpleName().toString());
  }

  // ---- rules 2, 4, 6, 10: what may stand in a method

  @Override
  public Void visitLambdaExpression(LambdaExpressionTree x, Void v) { must(false, "2: a lambda" + at(x)); return null; }
  @Override
  public Void visitMemberReference(MemberReferenceTree x, Void v) { must(false, "2: a method reference" + at(x)); return null; }
  @Override
  public Void visitThrow(ThrowTree x, Void v) { must(false, "6: throw" + at(x)); return null; }
  @Override
  public Void visitTry(TryTree x, Void v) { must(false, "6: try" + at(x)); return null; }
  @Override
  public Void visitSynchronized(SynchronizedTree x, Void v) { must(false, "6: synchronized" + at(x)); return null; }
  @Override
  public Void visitAssert(AssertTree x, Void v) { must(false, "6: assert" + at(x)); return null; }

  @Override
  public Void visitTypeCast(TypeCastTree x, Void v) {
    must(typeOf(x.getType()).getKind().isPrimitive() && typeOf(x.getExpression()).getKind().isPrimitive(), "6: a cast of objects" + at(x));
    return super.visitTypeCast(x, v);
  }

  @Override
  public Void visitBinary(BinaryTree x, Void v) {
    TypeMirror left = typeOf(x.getLeftOperand());
    TypeMirror right = typeOf(x.getRightOperand());
    boolean same = x.getKind() == Tree.Kind.EQUAL_TO || x.getKind() == Tree.Kind.NOT_EQUAL_TO;
    must(!(same && isText(left) && isText(right)), "6: == between texts" + at(x));
    must(!(x.getKind() == Tree.Kind.PLUS && (isText(left) || isText(right))), "10: texts joined by +" + at(x));
    if (x.getKind() == Tree.Kind.DIVIDE || x.getKind() == Tree.Kind.REMAINDER) divisor(x.getRightOperand());
    return super.visitBinary(x, v);
  }

  /** Rule 7: a constant that is not 0, or one that the lines around it look at. */
  private void divisor(ExpressionTree by) {
    Element e = trees.getElement(new TreePath(getCurrentPath(), by));
    boolean constant = by instanceof LiteralTree && !by.toString().equals("0")
      || e instanceof VariableElement && ((VariableElement) e).getConstantValue() != null;
    boolean looked = Set.of("StandRank.commonDivisor lesser", "StandRank.chance common").contains(methodAround() + " " + by);
    must(constant || looked, "7: a divisor that is not looked at" + at(by));
  }

  @Override
  public Void visitCompoundAssignment(CompoundAssignmentTree x, Void v) {
    must(!isText(typeOf(x.getVariable())), "10: texts joined by +=" + at(x));
    must(x.getKind() != Tree.Kind.DIVIDE_ASSIGNMENT && x.getKind() != Tree.Kind.REMAINDER_ASSIGNMENT, "7: a divisor" + at(x));
    return super.visitCompoundAssignment(x, v);
  }

  @Override
  public Void visitLiteral(LiteralTree x, Void v) {
    if (x.getValue() instanceof String) {
      for (char c : ((String) x.getValue()).toCharArray()) must(c >= 1 && c <= 127, "4: a sign of " + (int) c + at(x));
    }
    return null;
  }

  @Override
  public Void visitMethodInvocation(MethodInvocationTree x, Void v) {
    ExecutableElement e = (ExecutableElement) trees.getElement(getCurrentPath());
    String owner = simple(e.getEnclosingElement().toString());
    String name = owner + "." + e.getSimpleName();
    if (isOwn(e)) {
      calls.computeIfAbsent(methodAround(), k -> new LinkedHashSet<>()).add(nameOf(e));
    } else if (!(e.getKind() == ElementKind.CONSTRUCTOR && owner.equals("Object"))) {
      boolean function = FUNCTIONS.contains(owner) && e.getModifiers().contains(Modifier.STATIC) && !name.endsWith("Exact");
      for (VariableElement p : e.getParameters()) function &= Set.of(TypeKind.INT, TypeKind.LONG).contains(p.asType().getKind());
      must(LIBRARY.contains(name) || function, "4: " + name + at(x));
    }
    return super.visitMethodInvocation(x, v);
  }

  // ---- rule 12: what is made

  @Override
  public Void visitNewClass(NewClassTree x, Void v) {
    ExecutableElement e = (ExecutableElement) trees.getElement(getCurrentPath());
    String owner = e.getEnclosingElement().getSimpleName().toString();
    must(x.getClassBody() == null, "2: an anonymous class" + at(x));
    must(isOwn(e) || MADE.contains(owner), "4: new " + owner + at(x));
    making(x);
    if (isOwn(e)) calls.computeIfAbsent(methodAround(), k -> new LinkedHashSet<>()).add(nameOf(e));
    return super.visitNewClass(x, v);
  }

  @Override
  public Void visitNewArray(NewArrayTree x, Void v) {
    making(x);
    for (ExpressionTree length : x.getDimensions()) {
      Element e = trees.getElement(new TreePath(getCurrentPath(), length));
      boolean constant = length instanceof LiteralTree || length instanceof BinaryTree
        || e instanceof VariableElement && ((VariableElement) e).getConstantValue() != null;
      must(constant, "7: a length that is no constant" + at(x));
    }
    return super.visitNewArray(x, v);
  }

  private void making(Tree x) {
    String by = methodAround();
    boolean maker = by.equals("field") || by.endsWith(".new") || MAKERS.contains(by);
    must(maker, "12: " + by + " makes something" + at(x));
    must(by.endsWith(".new") || !isWithinLoop(), "12: made in a loop" + at(x));
  }

  @Override
  public Void visitIdentifier(IdentifierTree x, Void v) {
    if (x.getName().contentEquals("this") && methodAround().endsWith(".new")) {
      must(getCurrentPath().getParentPath().getLeaf() instanceof MemberSelectTree, "12: a constructor hands itself out" + at(x));
    }
    return super.visitIdentifier(x, v);
  }

  // ---- rule 9: loops

  @Override
  public Void visitForLoop(ForLoopTree x, Void v) {
    must(x.getCondition() != null && x.getUpdate().size() > 0, "9: a for without an end" + at(x));
    return loop(x, x.getCondition()) ? super.visitForLoop(x, v) : null;
  }

  @Override
  public Void visitWhileLoop(WhileLoopTree x, Void v) {
    return loop(x, x.getCondition()) ? super.visitWhileLoop(x, v) : null;
  }

  @Override
  public Void visitDoWhileLoop(DoWhileLoopTree x, Void v) {
    return loop(x, x.getCondition()) ? super.visitDoWhileLoop(x, v) : null;
  }

  private boolean loop(Tree x, ExpressionTree condition) {
    loops++;
    String told = condition == null ? "" : condition.toString();
    must(told.contains("<") || told.contains(">"), "9: no counter against a bound" + at(x));
    return true;
  }

  // ---- rules 1, 8, 11: methods and how deep they call

  @Override
  public Void visitMethod(MethodTree m, Void v) {
    ExecutableElement e = (ExecutableElement) trees.getElement(getCurrentPath());
    String name = nameOf(e);
    must(methods.put(name, m) == null, "two methods are called " + name);
    elements.put(name, e);
    calls.computeIfAbsent(name, k -> new LinkedHashSet<>());
    must(e.getReturnType().getKind() == TypeKind.VOID || isAllowed(e.getReturnType(), 0), "3: what " + name + " answers");
    must(m.getParameters().size() <= 7, "11: parameters of " + name);
    must(!Set.of("equals", "hashCode", "toString", "finalize", "clone").contains(m.getName().toString()), "6: " + name);
    must(!m.getModifiers().getFlags().contains(Modifier.NATIVE) && m.getThrows().isEmpty(), "6: " + name);
    long from = unit.getLineMap().getLineNumber(trees.getSourcePositions().getStartPosition(unit, m));
    long to = unit.getLineMap().getLineNumber(Math.max(trees.getSourcePositions().getEndPosition(unit, m), 0));
    must(to - from + 1 <= MOST_LINES, "11: " + name + " has " + (to - from + 1) + " lines");
    return super.visitMethod(m, v);
  }

  private void names() {
    Set<String> open = new HashSet<>();
    for (ExecutableElement e : elements.values()) if (e.getModifiers().contains(Modifier.PUBLIC)) open.add(e.getSimpleName().toString());
    for (ExecutableElement e : elements.values()) {
      boolean constructor = e.getKind() == ElementKind.CONSTRUCTOR;
      boolean taken = !constructor && !e.getModifiers().contains(Modifier.PUBLIC) && open.contains(e.getSimpleName().toString());
      must(!taken, "1: " + nameOf(e) + " bears the name of a public one");
    }
    must(open.size() > 40 && loops > 40 && methods.size() > 150, "the class was seen");
  }

  /** What can be reached from a method by one call or more. */
  private Set<String> reached(String from) {
    Set<String> found = new LinkedHashSet<>();
    List<String> left = new ArrayList<>(calls.getOrDefault(from, Set.of()));
    while (!left.isEmpty()) {
      String next = left.remove(left.size() - 1);
      if (found.add(next)) left.addAll(calls.getOrDefault(next, Set.of()));
    }
    return found;
  }

  private Set<String> ring(String method) {
    Set<String> ring = new LinkedHashSet<>();
    for (String other : reached(method)) if (reached(other).contains(method)) ring.add(other);
    return ring;
  }

  /** How many calls stand open at most, the methods of a ring counted once each for every level that it may have. */
  private int open(String method, int levels) {
    Set<String> ring = ring(method);
    int deepest = 0;
    Set<String> from = new LinkedHashSet<>(ring);
    from.add(method);
    for (String member : from) {
      for (String next : calls.getOrDefault(member, Set.of())) if (!from.contains(next)) deepest = Math.max(deepest, open(next, levels));
    }
    return deepest + (ring.isEmpty() ? 1 : levels == 1 ? 1 : levels * ring.size());
  }

  private void depths() {
    for (String method : methods.keySet()) {
      ExecutableElement e = elements.get(method);
      if (!ring(method).isEmpty()) {
        boolean counted = false;
        for (VariableElement p : e.getParameters()) counted |= Set.of("within", "depth").contains(p.getSimpleName().toString());
        must(counted && e.getModifiers().contains(Modifier.PRIVATE), "8: " + method + " calls itself without a depth");
      }
      if (e.getModifiers().contains(Modifier.PUBLIC)) {
        must(open(method, 1) <= MOST_DEEP, "11: " + method + " goes " + open(method, 1) + " deep");
        must(open(method, LEVELS) < MOST_OPEN, "8: " + method + " has " + open(method, LEVELS) + " calls open");
      }
    }
  }
}
