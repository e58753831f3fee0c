import java.lang.reflect.Field;
import java.lang.reflect.Method;
import java.lang.reflect.Modifier;
import java.nio.file.Files;
import java.nio.file.Path;
import java.util.Arrays;
import java.util.List;
import java.util.Set;
import java.util.TreeSet;
import java.util.regex.Matcher;
import java.util.regex.Pattern;

/** What of ../shared/LANGUAGE.md and of the document's face can be seen from outside. Runs in the project's folder. */
final class LanguageTest {
  private static final Path PROGRAM = Path.of("src/main/java/SoldDays.java");
  private static final Path DOCUMENT = Path.of("../shared/DOC.md");

  public static void main(String[] args) throws Exception {
    String program = Files.readString(PROGRAM);
    face(Files.readString(DOCUMENT));
    words(program);
    members();
    lengths(program);
    Due.end();
  }

  private static void holds(String rule, boolean holds) {
    Due.due(rule, holds ? 1 : 0, 1);
  }

  /** Rule 1: the face is the document's, word by word. */
  private static void face(String document) {
    Set<String> wanted = new TreeSet<>();
    Matcher line = Pattern.compile("public int (\\w+)\\(([^)]*)\\);").matcher(document);
    while (line.find()) {
      wanted.add(line.group(1) + Arrays.toString(types(line.group(2))));
    }
    Set<String> there = new TreeSet<>();
    for (Method method : SoldDays.class.getDeclaredMethods()) {
      if (Modifier.isPublic(method.getModifiers())) {
        there.add(method.getName() + Arrays.toString(Arrays.stream(method.getParameterTypes()).map(Class::getName).toArray()));
        holds("1: " + method + " answers an int", method.getReturnType() == int.class);
      }
    }
    holds("1: the face has 40 methods", wanted.size() == 40);
    holds("1: the face is " + wanted + ", not " + there, wanted.equals(there));
    holds("1: public and final", Modifier.isPublic(SoldDays.class.getModifiers()) && Modifier.isFinal(SoldDays.class.getModifiers()));
    holds("1: one constructor", SoldDays.class.getDeclaredConstructors().length == 1 && SoldDays.class.getConstructors().length == 1);
  }

  private static Object[] types(String parameters) {
    if (parameters.isEmpty()) {
      return new Object[0];
    }
    return Arrays.stream(parameters.split(", ")).map(each -> each.split(" ")[0]).toArray();
  }

  /** Rules 3, 4, 6, 13: words and signs that don't stand in the program. */
  private static void words(String program) {
    String bare = program.replaceAll("(?s)/\\*.*?\\*/", "").replaceAll("//[^\n]*", "").replaceAll("'(\\\\.|[^'\\\\])'", "' '");
    List<String> words = List.of("throw", "throws", "try", "catch", "finally", "synchronized", "assert", "import", "package", "protected", "instanceof", "Object", "String", "Exact", "hashCode", "equals", "volatile", "transient", "native", "record", "var", "Thread", "goto", "null");
    for (String word : words) {
      holds("6: no " + word, !Pattern.compile("\\b" + word + "\\b").matcher(bare).find());
    }
    for (String signs : List.of("->", "::", "\"", "@")) {
      holds("2: no " + signs, !bare.contains(signs));
    }
    holds("3: signs of 1 to 127", program.chars().allMatch(sign -> sign > 0 && sign < 128));
    Set<String> library = new TreeSet<>();
    Matcher call = Pattern.compile("\\b(Math|System|Integer|Long|Arrays)\\.(\\w+)").matcher(bare);
    while (call.find()) {
      library.add(call.group());
    }
    holds("4: the library: " + library, Set.of("Math.max", "Math.min", "System.arraycopy", "Integer.bitCount").containsAll(library));
    holds("9: no while", !Pattern.compile("\\bwhile\\b").matcher(bare).find());
  }

  /** Rules 1, 2, 5, 11: members of the class and of those inside it. */
  private static void members() {
    Set<String> open = new TreeSet<>();
    for (Method method : SoldDays.class.getDeclaredMethods()) {
      if (Modifier.isPublic(method.getModifiers())) {
        open.add(method.getName());
      }
    }
    for (Method method : SoldDays.class.getDeclaredMethods()) {
      boolean isPrivate = Modifier.isPrivate(method.getModifiers());
      holds("1: " + method.getName() + " is public or private", isPrivate || Modifier.isPublic(method.getModifiers()));
      holds("1: private " + method.getName() + " bears no public name", !isPrivate || !open.contains(method.getName()));
    }
    for (Field field : SoldDays.class.getDeclaredFields()) {
      holds("1: " + field.getName() + " is private", Modifier.isPrivate(field.getModifiers()));
    }
    Class<?>[] inside = SoldDays.class.getDeclaredClasses();
    holds("11: at most twelve classes", inside.length + 1 <= 12);
    for (Class<?> each : inside) {
      holds("2: " + each.getName() + " is static", Modifier.isStatic(each.getModifiers()));
      holds("2: " + each.getName() + " is not public", !Modifier.isPublic(each.getModifiers()));
      holds("2: " + each.getName() + " has none inside", each.getDeclaredClasses().length == 0);
      fields(each);
      for (Method method : each.getDeclaredMethods()) {
        holds("1: " + method + " bears no public name", !open.contains(method.getName()));
        holds("11: " + method + " takes at most seven", method.getParameterCount() <= 7);
      }
    }
    fields(SoldDays.class);
  }

  private static void fields(Class<?> of) {
    int own = 0;
    for (Field field : of.getDeclaredFields()) {
      if (Modifier.isStatic(field.getModifiers())) {
        holds("5: " + field + " is final", Modifier.isFinal(field.getModifiers()));
      } else {
        own++;
      }
    }
    holds("11: " + of.getName() + " has at most twenty fields", own <= 20);
  }

  /** Rule 11: no method is longer than some sixty lines. */
  private static void lengths(String program) {
    String[] lines = program.split("\n");
    int start = 0;
    for (int i = 0; i < lines.length; i++) {
      if (lines[i].matches(" {2,4}\\S.*\\) \\{")) {
        start = i;
      }
      if (lines[i].matches(" {2,4}\\}")) {
        holds("11: the method of line " + (start + 1) + " is short", i - start < 60);
      }
      holds("11: line " + (i + 1) + " is short", lines[i].length() <= 120);
    }
  }
}
