import com.sun.source.tree.BinaryTree;
import com.sun.source.tree.ClassTree;
import com.sun.source.tree.CompilationUnitTree;
import com.sun.source.tree.IdentifierTree;
import com.sun.source.tree.MemberSelectTree;
import com.sun.source.tree.MethodInvocationTree;
import com.sun.source.tree.MethodTree;
import com.sun.source.tree.NewArrayTree;
import com.sun.source.tree.NewClassTree;
import com.sun.source.tree.Tree;
import com.sun.source.tree.VariableTree;
import com.sun.source.util.JavacTask;
import com.sun.source.util.SourcePositions;
import com.sun.source.util.TreePathScanner;
import com.sun.source.util.Trees;
import java.io.File;
import java.io.IOException;
import java.util.EnumSet;
import java.util.HashMap;
import java.util.List;
import java.util.Map;
import java.util.Set;
import java.util.TreeSet;
import javax.lang.model.element.Element;
import javax.lang.model.element.ElementKind;
import javax.lang.model.element.Modifier;
import javax.lang.model.element.TypeElement;
import javax.lang.model.element.VariableElement;
import javax.tools.JavaCompiler;
import javax.tools.StandardJavaFileManager;
import javax.tools.ToolProvider;

/** The rules of LANGUAGE.md that can be seen in the source of the class by counting. */
public final class LanguageTest extends TreePathScanner<Void, Void> {
  private static final Set<Tree.Kind> FORBIDDEN = EnumSet.of(Tree.Kind.THROW, Tree.Kind.TRY, Tree.Kind.CATCH,
      Tree.Kind.SYNCHRONIZED, Tree.Kind.ASSERT, Tree.Kind.LAMBDA_EXPRESSION, Tree.Kind.MEMBER_REFERENCE,
      Tree.Kind.DOUBLE_LITERAL, Tree.Kind.FLOAT_LITERAL, Tree.Kind.SWITCH_EXPRESSION, Tree.Kind.INSTANCE_OF,
      Tree.Kind.NULL_LITERAL);
  private static final Set<String> LIBRARY = Set.of("String.length", "String.charAt", "Math.max", "Math.min",
      "Math.abs", "Math.floorMod", "Integer.bitCount", "System.arraycopy", "Arrays.fill");
  private static final Set<String> FACE = Set.of("NONE", "<init>", "note", "at", "subject", "bar", "copy", "feed",
      "end", "text", "fault", "price", "breaks", "fit", "fits", "cheapest", "three", "chance", "seen", "strange",
      "follows", "never", "hand", "apart", "whose", "endings", "made", "head", "shape", "lasts", "page", "orders",
      "where", "weight", "story", "image", "back", "about");

  private final Trees trees;
  private final CompilationUnitTree unit;
  private final SourcePositions places;
  private final Map<Element, Set<Element>> calls = new HashMap<>();
  private final Set<String> shown = new TreeSet<>();
  private int classes = 0;
  private int wrong = 0;

  private LanguageTest(Trees trees, CompilationUnitTree unit) {
    this.trees = trees;
    this.unit = unit;
    this.places = trees.getSourcePositions();
  }

  private long line(Tree tree) {
    return unit.getLineMap().getLineNumber(places.getStartPosition(unit, tree));
  }

  private void refuse(int rule, Tree tree, String why) {
    wrong++;
    System.out.println("rule " + rule + ", line " + line(tree) + ": " + why);
  }

  private Element element() {
    return trees.getElement(getCurrentPath());
  }

  @Override
  public Void scan(Tree tree, Void nothing) {
    if (tree != null && FORBIDDEN.contains(tree.getKind())) {
      refuse(6, tree, "a " + tree.getKind());
    }
    return super.scan(tree, nothing);
  }

  @Override
  public Void visitClass(ClassTree tree, Void nothing) {
    classes++;
    Element owner = element();
    boolean outer = owner.getEnclosingElement().getKind() == ElementKind.PACKAGE;
    int fields = 0;
    for (Element member : owner.getEnclosedElements()) {
      boolean isPrivate = member.getModifiers().contains(Modifier.PRIVATE);
      boolean isClass = member instanceof TypeElement;
      fields += member.getKind() == ElementKind.FIELD && !member.getModifiers().contains(Modifier.STATIC) ? 1 : 0;
      if (isClass && !member.getModifiers().contains(Modifier.STATIC)) {
        refuse(2, tree, member + " is not static");
      }
      if (outer && !isPrivate && !isClass) {
        shown.add(member.getSimpleName().toString());
      }
      if (isPrivate && member.getKind() == ElementKind.METHOD && FACE.contains(member.getSimpleName().toString())) {
        refuse(1, tree, member + " bears a public name");
      }
    }
    if (fields > 20) {
      refuse(11, tree, owner + " has " + fields + " fields");
    }
    return super.visitClass(tree, nothing);
  }

  @Override
  public Void visitMethod(MethodTree tree, Void nothing) {
    Element method = element();
    calls.computeIfAbsent(method, m -> new java.util.HashSet<>());
    long lines = unit.getLineMap().getLineNumber(places.getEndPosition(unit, tree)) - line(tree) + 1;
    if (lines > 60 || tree.getParameters().size() > 7) {
      refuse(11, tree, method + " has " + lines + " lines, " + tree.getParameters().size() + " parameters");
    }
    return super.visitMethod(tree, nothing);
  }

  @Override
  public Void visitVariable(VariableTree tree, Void nothing) {
    Element variable = element();
    if (variable instanceof VariableElement && variable.getModifiers().contains(Modifier.STATIC)) {
      boolean row = tree.getInitializer() instanceof NewArrayTree;
      if (!variable.getModifiers().contains(Modifier.FINAL)
          || !row && ((VariableElement) variable).getConstantValue() == null) {
        refuse(5, tree, variable + " is no constant");
      }
    }
    return super.visitVariable(tree, nothing);
  }

  private Element around() {
    for (com.sun.source.util.TreePath path = getCurrentPath(); path != null; path = path.getParentPath()) {
      if (path.getLeaf() instanceof MethodTree) {
        return trees.getElement(path);
      }
    }
    return null;
  }

  private void note(Element called, Tree tree) {
    Element caller = around();
    String owner = called.getEnclosingElement().getSimpleName().toString();
    boolean own = called.getEnclosingElement().toString().startsWith("BrokenFugue");
    if (!own && !called.getSimpleName().contentEquals("<init>")
        && !LIBRARY.contains(owner + "." + called.getSimpleName())) {
      refuse(4, tree, owner + "." + called);
    }
    if (own && caller != null) {
      calls.computeIfAbsent(caller, m -> new java.util.HashSet<>()).add(called);
    }
  }

  @Override
  public Void visitMethodInvocation(MethodInvocationTree tree, Void nothing) {
    note(element(), tree);
    return super.visitMethodInvocation(tree, nothing);
  }

  private void refuseMaking(Tree tree) {
    Element method = around();
    if (method != null && method.getKind() != ElementKind.CONSTRUCTOR) {
      refuse(12, tree, method + " makes an object, which counts at each call");
    }
  }

  @Override
  public Void visitNewClass(NewClassTree tree, Void nothing) {
    refuseMaking(tree);
    if (tree.getClassBody() != null) {
      refuse(2, tree, "an anonymous class");
    }
    return super.visitNewClass(tree, nothing);
  }

  @Override
  public Void visitNewArray(NewArrayTree tree, Void nothing) {
    refuseMaking(tree);
    return super.visitNewArray(tree, nothing);
  }

  @Override
  public Void visitBinary(BinaryTree tree, Void nothing) {
    boolean texts = tree.getKind() == Tree.Kind.PLUS
        && trees.getTypeMirror(getCurrentPath()).toString().endsWith("String");
    if (texts) {
      refuse(10, tree, "texts joined by +");
    }
    return super.visitBinary(tree, nothing);
  }

  private void noteField(Element field, Tree tree) {
    if (field instanceof VariableElement && field.getKind() == ElementKind.FIELD
        && !field.getEnclosingElement().toString().startsWith("BrokenFugue")
        && !field.getSimpleName().contentEquals("length")) {
      refuse(4, tree, "a field of the library: " + field);
    }
  }

  @Override
  public Void visitMemberSelect(MemberSelectTree tree, Void nothing) {
    noteField(element(), tree);
    return super.visitMemberSelect(tree, nothing);
  }

  @Override
  public Void visitIdentifier(IdentifierTree tree, Void nothing) {
    noteField(element(), tree);
    return super.visitIdentifier(tree, nothing);
  }

  private int depth(Element method, int open) {
    if (open > 20) {
      return 1;
    }
    int deepest = 0;
    for (Element called : calls.getOrDefault(method, Set.of())) {
      deepest = Math.max(deepest, depth(called, open + 1));
    }
    return 1 + deepest;
  }

  private void judgeWhole(Tree tree) {
    if (!shown.equals(new TreeSet<>(FACE))) {
      refuse(1, tree, "the face is " + shown);
    }
    if (classes > 12) {
      refuse(11, tree, classes + " classes");
    }
    for (Element method : calls.keySet()) {
      if (depth(method, 0) > 8) {
        refuse(11, tree, method + " calls " + depth(method, 0) + " deep");
      }
    }
  }

  public static void main(String[] args) throws IOException {
    JavaCompiler compiler = ToolProvider.getSystemJavaCompiler();
    StandardJavaFileManager files = compiler.getStandardFileManager(null, null, null);
    JavacTask task = (JavacTask) compiler.getTask(null, files, null, List.of("-proc:none"), null,
        files.getJavaFileObjects(new File("src/main/java/BrokenFugue.java")));
    CompilationUnitTree unit = task.parse().iterator().next();
    task.analyze();
    LanguageTest test = new LanguageTest(Trees.instance(task), unit);
    test.scan(unit, null);
    test.judgeWhole(unit);
    System.out.println("LanguageTest: " + test.classes + " classes, " + test.wrong + " things against the rules");
    if (test.wrong != 0) {
      System.exit(1);
    }
  }
}
