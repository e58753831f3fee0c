import java.io.ByteArrayOutputStream;
import java.io.PrintStream;
import java.lang.reflect.Method;
import java.lang.reflect.Modifier;
import java.net.URL;
import java.net.URLClassLoader;
import java.nio.file.Files;
import java.nio.file.Path;
import java.util.ArrayList;
import java.util.List;
import java.util.regex.Matcher;
import java.util.regex.Pattern;
import java.util.stream.Stream;
import javax.tools.ToolProvider;

/** README.md tells what is so: its example prints what it says, no call and no test is missing. Runs in the project's folder. */
final class ReadmeTest {
  private static final Path PROGRAM = Path.of("src/main/java/SoldDays.java");

  public static void main(String[] args) throws Exception {
    String readme = Files.readString(Path.of("README.md"));
    calls(readme);
    tests(readme);
    example(readme);
    Due.end();
  }

  private static void holds(String what, boolean holds) {
    Due.due("README.md: " + what, holds ? 1 : 0, 1);
  }

  private static void calls(String readme) {
    for (Method method : SoldDays.class.getDeclaredMethods()) {
      if (Modifier.isPublic(method.getModifiers())) {
        holds("the call " + method.getName(), readme.contains("`" + method.getName() + "`"));
      }
    }
  }

  private static void tests(String readme) throws Exception {
    try (Stream<Path> files = Files.list(Path.of("tests"))) {
      for (Path file : files.filter(each -> each.toString().endsWith("Test.java")).toList()) {
        String name = file.getFileName().toString().replace(".java", "");
        holds("the test " + name, readme.contains("\n| " + name + " |"));
      }
    }
    Matcher row = Pattern.compile("\n\\| (\\w+Test) \\|").matcher(readme);
    while (row.find()) {
      holds(row.group(1) + " is there", Files.exists(Path.of("tests/" + row.group(1) + ".java")));
    }
    holds("how all are run", readme.contains("\n.ci/run\n") && Files.isExecutable(Path.of(".ci/run")));
  }

  /** The example is compiled and run; each line that it prints is the number of a comment. */
  private static void example(String readme) throws Exception {
    Matcher block = Pattern.compile("(?s)```java\n(.*?)```").matcher(readme);
    holds("there is an example", block.find());
    String example = block.group(1);
    List<String> wanted = new ArrayList<>();
    Matcher comment = Pattern.compile("println.*// (-?\\d+):").matcher(example);
    while (comment.find()) {
      wanted.add(comment.group(1));
    }
    holds("the example prints something", !wanted.isEmpty());
    List<String> printed = printedBy(example);
    holds("the example prints " + printed + ", not " + wanted, printed.equals(wanted));
  }

  private static List<String> printedBy(String example) throws Exception {
    Path folder = Files.createTempDirectory("readme");
    Path week = folder.resolve("Week.java");
    Files.writeString(week, example);
    int failed = ToolProvider.getSystemJavaCompiler().run(null, null, null, "-d", folder.toString(), PROGRAM.toString(), week.toString());
    holds("the example compiles", failed == 0);
    if (failed != 0) {
      return List.of();
    }
    PrintStream usual = System.out;
    ByteArrayOutputStream caught = new ByteArrayOutputStream();
    try (URLClassLoader loader = new URLClassLoader(new URL[] {folder.toUri().toURL()}, null)) {
      System.setOut(new PrintStream(caught, true));
      loader.loadClass("Week").getMethod("main", String[].class).invoke(null, (Object) new String[0]);
    } finally {
      System.setOut(usual);
      remove(folder);
    }
    return List.of(caught.toString().trim().split("\\R"));
  }

  private static void remove(Path folder) throws Exception {
    try (Stream<Path> files = Files.list(folder)) {
      for (Path file : files.toList()) {
        Files.delete(file);
      }
    }
    Files.delete(folder);
  }
}
