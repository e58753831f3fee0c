import com.sun.source.tree.CompilationUnitTree;
import com.sun.source.tree.DoWhileLoopTree;
import com.sun.source.tree.ForLoopTree;
import com.sun.source.tree.MethodInvocationTree;
import com.sun.source.tree.MethodTree;
import com.sun.source.tree.NewArrayTree;
import com.sun.source.tree.NewClassTree;
import com.sun.source.tree.WhileLoopTree;
import com.sun.source.util.JavacTask;
import com.sun.source.util.TreePathScanner;
import com.sun.source.util.Trees;
import java.nio.file.Path;
import java.util.HashSet;
import java.util.List;
import java.util.Map;
import java.util.Set;
import java.util.TreeMap;
import java.util.TreeSet;
import javax.lang.model.element.Element;
import javax.lang.model.element.ElementKind;
import javax.lang.model.element.ExecutableElement;
import javax.lang.model.element.Modifier;
import javax.tools.JavaCompiler;
import javax.tools.StandardJavaFileManager;
import javax.tools.ToolProvider;

/** Rules 8, 9, 11, 12 of ../shared/LANGUAGE.md, as the compiler sees which method calls which. Runs in the project's folder. */
final class CallsTest {
  private static final Path PROGRAM = Path.of("src/main/java/SoldDays.java");
  private static final int MOST_DEEP = 8;

  private static final Map<String, ExecutableElement> METHODS = new TreeMap<>();
  private static final Map<String, Set<String>> CALLED = new TreeMap<>();

  public static void main(String[] args) throws Exception {
    read();
    holds("there are methods: " + METHODS.size(), METHODS.size() > 80);
    for (String name : METHODS.keySet()) {
      if (reached(name).contains(name)) {
        recursion(METHODS.get(name), name);
      }
      holds("11: " + name + " goes at most eight deep", deep(name, new HashSet<>()) <= MOST_DEEP);
    }
    Due.end();
  }

  private static void holds(String rule, boolean holds) {
    Due.due(rule, holds ? 1 : 0, 1);
  }

  /** Rule 8: what calls itself, by way of others too, is private, and its depth is an argument. */
  private static void recursion(ExecutableElement method, String name) {
    holds("8: " + name + " is private", method.getModifiers().contains(Modifier.PRIVATE));
    List<? extends Element> arguments = method.getParameters();
    String last = arguments.isEmpty() ? "" : arguments.get(arguments.size() - 1).getSimpleName().toString();
    holds("8: " + name + " carries its depth", last.equals("depth") || last.equals("open"));
  }

  /** All that a method calls, and what these call. */
  private static Set<String> reached(String from) {
    Set<String> all = new TreeSet<>();
    reach(from, all);
    return all;
  }

  private static void reach(String from, Set<String> all) {
    for (String each : CALLED.getOrDefault(from, Set.of())) {
      if (all.add(each)) {
        reach(each, all);
      }
    }
  }

  /** Rule 11: how many calls stand open at once, those that are recursion counted as one. */
  private static int deep(String name, Set<String> open) {
    int most = 0;
    open.add(name);
    for (String each : CALLED.getOrDefault(name, Set.of())) {
      boolean isRecursion = reached(each).contains(name);
      if (!isRecursion && !open.contains(each)) {
        most = Math.max(most, deep(each, open));
      }
    }
    open.remove(name);
    return 1 + most;
  }

  private static void read() throws Exception {
    JavaCompiler compiler = ToolProvider.getSystemJavaCompiler();
    try (StandardJavaFileManager files = compiler.getStandardFileManager(null, null, null)) {
      JavacTask task = (JavacTask) compiler.getTask(null, files, null, List.of("-proc:none"), null, files.getJavaFileObjects(PROGRAM));
      Iterable<? extends CompilationUnitTree> units = task.parse();
      task.analyze();
      for (CompilationUnitTree unit : units) {
        new Reader(Trees.instance(task)).scan(unit, null);
      }
    }
  }

  private static final class Reader extends TreePathScanner<Void, Void> {
    private final Trees trees;
    private String inside = "";
    private boolean isMaker = true;

    Reader(Trees trees) {
      this.trees = trees;
    }

    @Override
    public Void visitMethod(MethodTree tree, Void nothing) {
      ExecutableElement method = (ExecutableElement) trees.getElement(getCurrentPath());
      String outer = inside;
      boolean wasMaker = isMaker;
      inside = nameOf(method);
      isMaker = method.getKind() == ElementKind.CONSTRUCTOR;
      METHODS.put(inside, method);
      super.visitMethod(tree, nothing);
      inside = outer;
      isMaker = wasMaker;
      return null;
    }

    @Override
    public Void visitMethodInvocation(MethodInvocationTree tree, Void nothing) {
      if (trees.getElement(getCurrentPath()) instanceof ExecutableElement called && isOurs(called)) {
        CALLED.computeIfAbsent(inside, each -> new TreeSet<>()).add(nameOf(called));
      }
      return super.visitMethodInvocation(tree, nothing);
    }

    /** Rule 12, and the room of a run: rows and objects are made with the object alone. */
    @Override
    public Void visitNewArray(NewArrayTree tree, Void nothing) {
      holds("12: no row is made in " + inside, isMaker);
      return super.visitNewArray(tree, nothing);
    }

    @Override
    public Void visitNewClass(NewClassTree tree, Void nothing) {
      holds("12: no object is made in " + inside, isMaker);
      return super.visitNewClass(tree, nothing);
    }

    /** Rule 9: a loop counts up or down to what its first line tells. */
    @Override
    public Void visitForLoop(ForLoopTree tree, Void nothing) {
      boolean counts = tree.getInitializer().size() == 1 && tree.getCondition() != null && tree.getUpdate().size() == 1;
      holds("9: a loop of " + inside + " counts", counts);
      holds("9: a loop of " + inside + " is bounded", counts && tree.getCondition().toString().contains("<") || counts && tree.getCondition().toString().contains(">"));
      return super.visitForLoop(tree, nothing);
    }

    @Override
    public Void visitWhileLoop(WhileLoopTree tree, Void nothing) {
      holds("9: no while in " + inside, false);
      return super.visitWhileLoop(tree, nothing);
    }

    @Override
    public Void visitDoWhileLoop(DoWhileLoopTree tree, Void nothing) {
      holds("9: no do in " + inside, false);
      return super.visitDoWhileLoop(tree, nothing);
    }

    private boolean isOurs(ExecutableElement method) {
      Element top = method.getEnclosingElement();
      while (top.getEnclosingElement() != null && top.getEnclosingElement().getKind() != ElementKind.PACKAGE) {
        top = top.getEnclosingElement();
      }
      return top.getSimpleName().contentEquals("SoldDays");
    }

    private static String nameOf(ExecutableElement method) {
      return method.getEnclosingElement() + "." + method;
    }
  }
}
