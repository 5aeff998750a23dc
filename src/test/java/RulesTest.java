import com.sun.source.tree.*;
import com.sun.source.util.JavacTask;
import com.sun.source.util.TreePathScanner;
import com.sun.source.util.Trees;
import java.io.File;
import java.util.ArrayList;
import java.util.HashMap;
import java.util.HashSet;
import java.util.List;
import java.util.Map;
import java.util.Set;
import java.util.TreeSet;
import javax.lang.model.element.Element;
import javax.lang.model.element.ElementKind;
import javax.lang.model.element.Modifier;
import javax.lang.model.element.TypeElement;
import javax.lang.model.type.TypeKind;
import javax.lang.model.type.TypeMirror;
import javax.tools.JavaCompiler;
import javax.tools.StandardJavaFileManager;
import javax.tools.ToolProvider;

/** Holds the program's text against the rules of ../shared/LANGUAGE.md that a tree can show. */
public final class RulesTest extends TreePathScanner<Void, Void> {
  private static final String FILE = "src/main/java/WheelBrook.java";
  private static final Set<String> FACE = Set.of("force", "weed", "frost", "owe", "familyIs",
      "wheel", "wheelIs", "as", "set", "flows", "feed", "text", "untell", "hours", "draws", "seed",
      "sell", "fair", "then", "thenFamily", "when", "sluices", "fewer", "bestPlace", "who",
      "slipped", "voice", "body", "sheet", "put", "move", "forces", "judge", "image", "restore",
      "tell", "check", "count", "told");
  /** Each method of the library that the program may call, and no other. */
  private static final Set<String> LIBRARY = Set.of("Math.max", "Math.min", "String.indexOf",
      "System.arraycopy");
  private static final Set<Tree.Kind> FORBIDDEN = Set.of(Tree.Kind.THROW, Tree.Kind.TRY,
      Tree.Kind.CATCH, Tree.Kind.SYNCHRONIZED, Tree.Kind.ASSERT, Tree.Kind.LAMBDA_EXPRESSION,
      Tree.Kind.MEMBER_REFERENCE, Tree.Kind.IMPORT, Tree.Kind.PACKAGE, Tree.Kind.ANNOTATION,
      Tree.Kind.INSTANCE_OF);

  private final Trees trees;
  private final CompilationUnitTree unit;
  private final Map<String, Set<String>> callsOf = new HashMap<>();
  private final Set<String> face = new TreeSet<>();
  private final List<String> faults = new ArrayList<>();
  private int classes;
  private String method = "";

  private RulesTest(Trees trees, CompilationUnitTree unit) {
    this.trees = trees;
    this.unit = unit;
  }

  public static void main(String[] args) throws Exception {
    JavaCompiler compiler = ToolProvider.getSystemJavaCompiler();
    StandardJavaFileManager files = compiler.getStandardFileManager(null, null, null);
    JavacTask task = (JavacTask) compiler.getTask(null, files, null, List.of("-proc:none"), null,
        files.getJavaFileObjects(new File(FILE)));
    CompilationUnitTree unit = task.parse().iterator().next();
    task.analyze();
    RulesTest rules = new RulesTest(Trees.instance(task), unit);
    rules.scan(unit, null);
    rules.end();
    for (String fault : rules.faults) {
      System.out.println(fault);
    }
    System.out.println("RulesTest: " + rules.faults.size() + " faults");
    if (!rules.faults.isEmpty()) {
      System.exit(1);
    }
  }

  private void need(boolean holds, int rule, Tree at, String what) {
    if (!holds) {
      faults.add("rule " + rule + ", line " + line(at, true) + ": " + what);
    }
  }

  private long line(Tree tree, boolean first) {
    if (tree == null) {
      return 0;
    }
    long at = first ? trees.getSourcePositions().getStartPosition(unit, tree)
        : trees.getSourcePositions().getEndPosition(unit, tree);
    return unit.getLineMap().getLineNumber(at);
  }

  @Override public Void scan(Tree tree, Void none) {
    if (tree != null) {
      need(!FORBIDDEN.contains(tree.getKind()), 6, tree, tree.getKind() + " is not used");
    }
    return super.scan(tree, none);
  }

  @Override public Void visitClass(ClassTree tree, Void none) {
    classes++;
    boolean outer = tree.getSimpleName().contentEquals("WheelBrook");
    Set<Modifier> flags = tree.getModifiers().getFlags();
    need(flags.contains(Modifier.FINAL), 1, tree, "a class is final");
    need(outer == flags.contains(Modifier.PUBLIC), 1, tree, "the public class");
    need(outer || flags.contains(Modifier.STATIC), 2, tree, "an inner class is static");
    int fields = 0;
    for (Tree member : tree.getMembers()) {
      need(member.getKind() != Tree.Kind.BLOCK, 5, member, "no initialiser block");
      if (member instanceof VariableTree) {
        Set<Modifier> of = ((VariableTree) member).getModifiers().getFlags();
        need(!of.contains(Modifier.STATIC) || of.contains(Modifier.FINAL), 5, member, "final");
        need(!outer || of.contains(Modifier.PRIVATE), 1, member, "a field is private");
        fields += of.contains(Modifier.STATIC) ? 0 : 1;
      }
      if (member instanceof MethodTree && outer) {
        faceOf((MethodTree) member);
      }
    }
    need(fields <= 20, 11, tree, fields + " fields");
    return super.visitClass(tree, none);
  }

  private void faceOf(MethodTree tree) {
    String name = tree.getName().toString();
    Set<Modifier> of = tree.getModifiers().getFlags();
    need(of.contains(Modifier.PUBLIC) || of.contains(Modifier.PRIVATE), 1, tree, name);
    if (of.contains(Modifier.PUBLIC) && tree.getReturnType() != null) {
      face.add(name);
    }
  }

  @Override public Void visitMethod(MethodTree tree, Void none) {
    String name = tree.getName().toString();
    boolean isPublic = tree.getModifiers().getFlags().contains(Modifier.PUBLIC);
    need(isPublic || !FACE.contains(name), 1, tree, name + " is a name of the face");
    need(tree.getParameters().size() <= 7, 11, tree, "parameters of " + name);
    need(line(tree, false) - line(tree, true) < 60, 11, tree, "lines of " + name);
    String outer = method;
    method = key(trees.getElement(getCurrentPath()));
    callsOf.putIfAbsent(method, new HashSet<>());
    super.visitMethod(tree, none);
    method = outer;
    return null;
  }

  private static String key(Element e) {
    return e.getEnclosingElement().getSimpleName() + "." + e.getSimpleName();
  }

  @Override public Void visitMethodInvocation(MethodInvocationTree tree, Void none) {
    Element called = trees.getElement(getCurrentPath());
    String key = key(called);
    TypeElement owner = (TypeElement) called.getEnclosingElement();
    boolean own = owner.getSimpleName().contentEquals("WheelBrook")
        || owner.getEnclosingElement().getKind() == ElementKind.CLASS;
    need(own || LIBRARY.contains(key) || key.equals("Object.<init>"), 4, tree, key);
    if (own) {
      callsOf.computeIfAbsent(method, k -> new HashSet<>()).add(key);
    }
    return super.visitMethodInvocation(tree, none);
  }

  @Override public Void visitNewClass(NewClassTree tree, Void none) {
    need(method.isEmpty() || method.endsWith(".<init>"), 12, tree, "made by a call");
    need(tree.getClassBody() == null, 2, tree, "no anonymous class");
    return super.visitNewClass(tree, none);
  }

  @Override public Void visitNewArray(NewArrayTree tree, Void none) {
    need(method.isEmpty() || method.endsWith(".<init>"), 12, tree, "made by a call");
    return super.visitNewArray(tree, none);
  }

  @Override public Void visitBinary(BinaryTree tree, Void none) {
    TypeMirror left = typeOf(tree.getLeftOperand());
    TypeMirror right = typeOf(tree.getRightOperand());
    boolean numbers = left.getKind().isPrimitive() && right.getKind().isPrimitive();
    need(numbers, 10, tree, "no sign between texts or objects: " + tree);
    need(left.getKind() != TypeKind.DOUBLE && right.getKind() != TypeKind.DOUBLE, 3, tree, "doubles");
    return super.visitBinary(tree, none);
  }

  private TypeMirror typeOf(Tree tree) {
    return trees.getTypeMirror(new com.sun.source.util.TreePath(getCurrentPath(), tree));
  }

  @Override public Void visitTypeCast(TypeCastTree tree, Void none) {
    need(tree.getType().getKind() == Tree.Kind.PRIMITIVE_TYPE, 6, tree, "a cast of an object");
    return super.visitTypeCast(tree, none);
  }

  private void end() {
    need(classes <= 12, 11, null, classes + " classes");
    need(face.equals(new TreeSet<>(FACE)), 1, null, "the face: " + face);
    Set<String> recursive = new TreeSet<>();
    for (String from : callsOf.keySet()) {
      if (reaches(from, from, new HashSet<>())) {
        recursive.add(from);
      }
    }
    need(recursive.stream().allMatch(m -> m.startsWith("Speaker.")), 8, null, "recursion: " + recursive);
    for (String from : callsOf.keySet()) {
      need(depth(from, recursive) <= 8, 11, null, from + " goes deep");
    }
  }

  private boolean reaches(String from, String to, Set<String> seen) {
    for (String next : callsOf.getOrDefault(from, Set.of())) {
      if (next.equals(to) || seen.add(next) && reaches(next, to, seen)) {
        return true;
      }
    }
    return false;
  }

  private int depth(String from, Set<String> recursive) {
    int most = 0;
    for (String next : callsOf.getOrDefault(from, Set.of())) {
      most = Math.max(most, recursive.contains(next) ? 1 : depth(next, recursive));
    }
    return most + 1;
  }
}
