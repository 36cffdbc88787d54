import java.io.StringWriter;
import java.lang.reflect.Method;
import java.lang.reflect.Modifier;
import java.net.URL;
import java.net.URLClassLoader;
import java.nio.file.Files;
import java.nio.file.Path;
import java.util.List;
import java.util.regex.Matcher;
import java.util.regex.Pattern;
import javax.tools.JavaCompiler;
import javax.tools.StandardJavaFileManager;
import javax.tools.ToolProvider;

/** The examples of README.md, compiled as they stand there, with the answers that they name. */
public final class ReadmeTests {
  private static int wrong = 0;
  private static int answers = 0;

  /** A call of an example: alone in its line, and behind it what it answers. */
  private static final Pattern CALL = Pattern.compile("^(x\\.\\w+\\(.*\\));(?:\\s*//\\s*(-?\\d+)(?![\\w.]).*)?$");

  private static void hold(boolean well, String what) {
    if (!well) {
      wrong++;
      System.out.println("not so: " + what);
    }
  }

  /** The examples call this one. */
  public static void due(String call, long got, long want) {
    answers++;
    hold(got == want, call + " answers " + want + " by README.md, but " + got);
  }

  // ---- examples

  /** Java's text of a class that runs one example. */
  private static String classOf(String name, String example) {
    StringBuilder b = new StringBuilder("public final class " + name + " {\n  public static void run() {\n");
    for (String line : example.split("\n")) {
      Matcher call = CALL.matcher(line);
      if (!call.matches()) {
        hold(!line.startsWith("x."), "a call stands alone in its line: " + line);
        b.append(line);
      } else {
        hold(call.group(2) != null, "what it answers is told: " + line);
        String quoted = call.group(1).replace("\\", "\\\\").replace("\"", "\\\"");
        b.append("ReadmeTests.due(\"").append(quoted).append("\", ").append(call.group(1)).append(", ").append(call.group(2)).append("L);");
      }
      b.append("\n");
    }
    return b.append("  }\n}\n").toString();
  }

  private static void runExample(String name, String example) throws Exception {
    Path room = Files.createTempDirectory("readme");
    Path file = room.resolve(name + ".java"), made = room.resolve(name + ".class");
    Files.writeString(file, classOf(name, example));
    JavaCompiler compiler = ToolProvider.getSystemJavaCompiler();
    StringWriter told = new StringWriter();
    boolean compiled;
    try (StandardJavaFileManager files = compiler.getStandardFileManager(null, null, null)) {
      List<String> options = List.of("-d", room.toString(), "-cp", System.getProperty("java.class.path"));
      compiled = compiler.getTask(told, files, null, options, null, files.getJavaFileObjects(file)).call();
    }
    hold(compiled, "it can be compiled: " + example + told);
    if (compiled) {
      try (URLClassLoader loader = new URLClassLoader(new URL[] {room.toUri().toURL()}, ReadmeTests.class.getClassLoader())) {
        loader.loadClass(name).getMethod("run").invoke(null);
      }
    }
    Files.deleteIfExists(made);
    Files.deleteIfExists(file);
    Files.deleteIfExists(room);
  }

  private static void examples(String readme) throws Exception {
    Matcher blocks = Pattern.compile("(?s)```java\n(.*?)```").matcher(readme);
    int n = 0;
    while (blocks.find()) {
      n++;
      int before = answers;
      runExample("Example" + n, blocks.group(1));
      hold(answers > before, "an example names answers: " + blocks.group(1));
    }
    hold(n > 0, "there is an example");
  }

  // ---- what is told of the calls

  private static void calls(String readme) {
    for (Method m : UnnestPlans.class.getDeclaredMethods()) {
      if (!Modifier.isPublic(m.getModifiers())) continue;
      String numbers = "\\w+(, \\w+){" + (m.getParameterCount() - 1) + "}";
      Pattern row = Pattern.compile("(?m)^\\| `" + m.getName() + "\\(" + (m.getParameterCount() == 0 ? "" : numbers) + "\\)` \\| .+ \\|.*\\|$");
      hold(row.matcher(readme).find(), "the call and its numbers stand in a table: " + m);
    }
  }

  private static void numbers(String readme) {
    String[] names = {"`NONE`", "`BAD`", "`NOT`", "`FULL`", "NULL, FINDING 1", "INDEX, FINDING 2", "CAST, FINDING 3", "STORE, FINDING 4", "SIZE, FINDING 5"};
    int[] numbers = {UnnestPlans.NONE, UnnestPlans.BAD, UnnestPlans.NOT, UnnestPlans.FULL, -11, -12, -13, -14, -15};
    for (int i = 0; i < names.length; i++) {
      hold(readme.contains("| " + numbers[i] + " | " + names[i] + " |"), "the answer " + numbers[i] + " is told: " + names[i]);
    }
  }

  private static void tests(String readme) throws Exception {
    hold(readme.contains("`.ci/run`"), "how to run the tests");
    try (var files = Files.list(Path.of("src/test/java"))) {
      for (Path file : files.toList()) {
        String name = file.getFileName().toString().replace(".java", "");
        hold(readme.contains("`" + name + "`"), "the test is told: " + name);
      }
    }
  }

  public static void main(String[] args) throws Exception {
    String readme = Files.readString(Path.of("README.md"));
    examples(readme);
    calls(readme);
    numbers(readme);
    tests(readme);
    System.out.println(answers + " answers of README.md compared, " + wrong + " things are not as due");
    if (wrong != 0) System.exit(1);
  }
}
