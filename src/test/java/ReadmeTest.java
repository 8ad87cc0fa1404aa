import java.io.IOException;
import java.lang.reflect.Method;
import java.lang.reflect.Modifier;
import java.nio.file.Files;
import java.nio.file.Path;
import java.util.List;
import java.util.regex.Matcher;
import java.util.regex.Pattern;
import java.util.stream.Collectors;
import java.util.stream.Stream;

/** README.md keeps its word: its example answers as it says, and it names every call and every test. */
public final class ReadmeTest {
  /** A call of the example, with its answer behind it. */
  private static final Pattern CALL = Pattern.compile("heap\\.(\\w+)\\(([^)]*)\\);\\s+// (-?\\w+)");

  private static int wrong = 0;

  private static void check(boolean holds, String what) {
    if (!holds) {
      wrong++;
      System.out.println("README.md: " + what);
    }
  }

  private static Method callNamed(String name) {
    for (Method m : SlabHeap.class.getMethods()) {
      if (m.getDeclaringClass() == SlabHeap.class && m.getName().equals(name)) return m;
    }
    throw new IllegalStateException("no call is named " + name);
  }

  private static Object answer(SlabHeap heap, String name, String arguments) throws Exception {
    if (arguments.isEmpty()) return callNamed(name).invoke(heap);
    Object[] numbers = Stream.of(arguments.split(", ")).map(Integer::valueOf).toArray();
    return callNamed(name).invoke(heap, numbers);
  }

  private static void checkExample(String text) throws Exception {
    SlabHeap heap = new SlabHeap();
    int calls = 0;
    Matcher call = CALL.matcher(text);
    while (call.find()) {
      calls++;
      String got = String.valueOf(answer(heap, call.group(1), call.group(2)));
      check(got.equals(call.group(3)), call.group() + " answered " + got);
    }
    long lines = text.lines().filter(line -> line.startsWith("heap.")).count();
    check(calls > 0 && calls == lines, "of the example's " + lines + " lines, " + calls + " tell their answer");
  }

  private static void checkCalls(String text) {
    for (Method m : SlabHeap.class.getDeclaredMethods()) {
      if (!Modifier.isPublic(m.getModifiers())) continue;
      Matcher row = Pattern.compile("(?m)^\\| `" + m.getName() + "\\(([^)]*)\\)` \\|").matcher(text);
      check(row.find(), "no table tells of " + m.getName());
      if (row.reset().find()) {
        int parameters = row.group(1).isEmpty() ? 0 : row.group(1).split(", ").length;
        check(parameters == m.getParameterCount(), m.getName() + " has other parameters");
      }
    }
  }

  private static List<String> testNames() throws IOException {
    try (Stream<Path> files = Files.list(Path.of("src", "test", "java"))) {
      return files.map(file -> file.getFileName().toString().replace(".java", "")).collect(Collectors.toList());
    }
  }

  private static void checkTests(String text) throws IOException {
    check(text.contains(".ci/run"), "doesn't tell of .ci/run");
    for (String name : testNames()) {
      check(text.contains("- `" + name + "`: "), "doesn't tell of " + name);
    }
  }

  public static void main(String[] args) throws Exception {
    String text = Files.readString(Path.of("README.md"));
    checkExample(text);
    checkCalls(text);
    checkTests(text);
    System.out.println(wrong == 0 ? "README.md keeps its word" : wrong + " things are not so");
    if (wrong != 0) {
      System.exit(1);
    }
  }
}
