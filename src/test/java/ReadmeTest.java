import java.io.IOException;
import java.lang.reflect.Method;
import java.lang.reflect.Modifier;
import java.net.URL;
import java.net.URLClassLoader;
import java.nio.file.Files;
import java.nio.file.Path;
import java.util.ArrayList;
import java.util.List;
import java.util.Set;
import java.util.TreeSet;
import java.util.regex.Matcher;
import java.util.regex.Pattern;
import java.util.stream.Collectors;
import java.util.stream.Stream;
import javax.tools.ToolProvider;

/**
 * What README.md says holds: each of its Java blocks is compiled and run, and every answer behind //
 * is compared; its table names every call of the class with its exceptions; it names every test.
 */
public final class ReadmeTest {
  private static final Path README = Path.of("README.md");
  private static final Path TESTS = Path.of("src/test/java");
  private static final Pattern ANSWERED =
      Pattern.compile("(\\s*)((?:int|boolean) \\w+ = )?(ledger\\.\\w+\\([^;]*\\));\\s*// (-?\\d+|true|false)(:.*)?");
  private static final Pattern LOOKS_ANSWERED = Pattern.compile(".*//\\W*(\\d|true|false).*");
  private static final Pattern TEST_NAME = Pattern.compile("`(\\w+Test)`");

  /** What the rewritten examples call; answers asked and answers that were not as written. */
  public static int asked = 0;
  private static int wrong = 0;

  private final List<String> lines;
  private final List<String> blocks = new ArrayList<>();
  private int written = 0;

  private ReadmeTest(List<String> lines) {
    this.lines = lines;
  }

  public static void main(String[] args) throws Exception {
    ReadmeTest test = new ReadmeTest(Files.readAllLines(README));
    test.findBlocks();
    test.runBlocks();
    test.compareCalls();
    test.compareTests();
    System.out.println("ReadmeTest: " + test.blocks.size() + " examples, " + asked + " answers, " + wrong + " wrong");
    System.exit(wrong == 0 && asked > 0 ? 0 : 1);
  }

  public static int due(int line, int got, int want) {
    asked++;
    if (got != want) {
      fault("line " + line + " answered " + got + ", it says " + want);
    }
    return got;
  }

  public static boolean due(int line, boolean got, boolean want) {
    due(line, got ? 1 : 0, want ? 1 : 0);
    return got;
  }

  private static void fault(String text) {
    wrong++;
    System.out.println("README.md: " + text);
  }

  private void findBlocks() {
    StringBuilder block = null;
    for (int i = 0; i < lines.size(); i++) {
      String line = lines.get(i);
      if (line.equals("```java")) {
        block = new StringBuilder();
      } else if (line.startsWith("```") && block != null) {
        blocks.add(block.toString());
        block = null;
      } else if (block != null) {
        block.append(rewritten(i + 1, line)).append('\n');
      }
    }
  }

  private String rewritten(int number, String line) {
    Matcher answered = ANSWERED.matcher(line);
    if (answered.matches()) {
      written++;
      String declared = answered.group(2) == null ? "" : answered.group(2);
      return declared + "ReadmeTest.due(" + number + ", " + answered.group(3) + ", " + answered.group(4) + ");";
    }
    if (LOOKS_ANSWERED.matcher(line).matches()) {
      fault("line " + number + " gives an answer that can't be read");
    }
    return line;
  }

  private void runBlocks() throws Exception {
    Path folder = Files.createTempDirectory("readme");
    try {
      StringBuilder source = new StringBuilder("public class Examples {\n");
      for (int i = 0; i < blocks.size(); i++) {
        source.append("public static void example").append(i).append("() {\n").append(blocks.get(i)).append("}\n");
      }
      Path file = Files.writeString(folder.resolve("Examples.java"), source.append("}\n"));
      String path = System.getProperty("java.class.path");
      int failed = ToolProvider.getSystemJavaCompiler()
          .run(null, null, null, "-cp", path, "-d", folder.toString(), file.toString());
      if (failed != 0) {
        fault("its examples do not compile");
        return;
      }
      runExamples(folder);
    } finally {
      removeFolder(folder);
    }
    if (asked != written) {
      fault(written + " answers are written, but the examples came to " + asked);
    }
  }

  private void runExamples(Path folder) throws Exception {
    try (URLClassLoader loader = new URLClassLoader(new URL[] {folder.toUri().toURL()})) {
      Class<?> examples = loader.loadClass("Examples");
      for (int i = 0; i < blocks.size(); i++) {
        try {
          examples.getMethod("example" + i).invoke(null);
        } catch (java.lang.reflect.InvocationTargetException e) {
          fault("example " + i + " throws " + e.getCause());
        }
      }
    }
  }

  private static void removeFolder(Path folder) throws IOException {
    try (Stream<Path> found = Files.list(folder)) {
      for (Path file : found.toList()) {
        Files.delete(file);
      }
    }
    Files.delete(folder);
  }

  /** A row of the table is: | `name(parameters)` | what it does | A, E: when, I: when, S |. */
  private void compareCalls() {
    for (Method method : KinLedger.class.getDeclaredMethods()) {
      if (!Modifier.isPublic(method.getModifiers())) {
        continue;
      }
      String row = callRow(method.getName());
      String[] cells = row.split("\\|");
      if (cells.length < 4) {
        fault("no row for " + method.getName());
        continue;
      }
      String parameters = cells[1].replaceAll(".*\\(|\\).*", "").trim();
      int count = parameters.isEmpty() ? 0 : parameters.split(",").length;
      if (count != method.getParameterCount()) {
        fault("other parameters for " + method.getName());
      }
      Matcher letters = Pattern.compile("\\b[AEIS]\\b").matcher(cells[3]);
      String given = letters.results().map(r -> r.group()).collect(Collectors.joining());
      if (!given.equals(letters(method))) {
        fault("exceptions of " + method.getName() + " are " + letters(method) + ", it says " + given);
      }
    }
  }

  private String callRow(String name) {
    return lines.stream().filter(line -> line.startsWith("| `" + name + "(")).findAny().orElse("");
  }

  private static String letters(Method method) {
    StringBuilder letters = new StringBuilder();
    for (Class<?> thrown : method.getExceptionTypes()) {
      switch (thrown.getSimpleName()) {
        case "IllegalArgumentException": letters.append('A'); break;
        case "NoSuchElementException": letters.append('E'); break;
        case "IndexOutOfBoundsException": letters.append('I'); break;
        case "IllegalStateException": letters.append('S'); break;
        default: letters.append('?');
      }
    }
    return letters.toString();
  }

  private void compareTests() throws IOException {
    Set<String> named = new TreeSet<>();
    TEST_NAME.matcher(String.join("\n", lines)).results().forEach(r -> named.add(r.group(1)));
    Set<String> there = new TreeSet<>();
    try (Stream<Path> found = Files.list(TESTS)) {
      found.map(file -> file.getFileName().toString()).filter(name -> name.endsWith("Test.java"))
          .forEach(name -> there.add(name.replace(".java", "")));
    }
    if (!named.equals(there)) {
      fault("it names the tests " + named + ", there are " + there);
    }
    compareRunFiles();
  }

  private static void compareRunFiles() throws IOException {
    int promises = 0;
    int terms = 0;
    try (Stream<Path> found = Files.list(Path.of("src/test/runs"))) {
      for (Path file : found.toList()) {
        promises += file.getFileName().toString().startsWith("promise-") ? 1 : 0;
        terms += file.getFileName().toString().startsWith("terms-") ? 1 : 0;
      }
    }
    if (promises != 18 || terms != 8) {
      fault("it says 18 and 8 files of runs, there are " + promises + " and " + terms);
    }
  }
}
