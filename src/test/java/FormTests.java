import java.lang.management.ManagementFactory;
import java.lang.reflect.Constructor;
import java.lang.reflect.Field;
import java.lang.reflect.Method;
import java.lang.reflect.Modifier;
import java.nio.file.Files;
import java.nio.file.Path;
import java.util.ArrayList;
import java.util.List;
import java.util.Set;
import java.util.TreeSet;
import java.util.regex.Matcher;
import java.util.regex.Pattern;

/** The public face, some rules of LANGUAGE.md that can be seen, and the room that a run may take. */
public final class FormTests {
  private static int wrong = 0;

  private static void hold(boolean well, String what) {
    if (!well) {
      wrong++;
      System.out.println("not so: " + what);
    }
  }

  private static final String[] FACE = {"int type(int,int)", "int wipe(int)", "int undo(int)", "int fault(int)", "int row(int,int,int)",
      "int step(int,int)", "int end(int)", "int error(int)", "int answer(int,int)", "int same()", "int total()", "int speaks()",
      "int domain(int,int)", "int plan(int)", "int cost(int,int)", "int log(int,int)", "int spare()", "int sheet(int,int,int)",
      "int lose(int)", "int put(int,int,int,int)", "int get(int,int,int)", "int copy(int,int,int,int,int)", "int write(int,int)",
      "int read(int,int)", "int count(int)", "long digest()"};

  private static void face() throws Exception {
    Set<String> methods = new TreeSet<>(), names = new TreeSet<>(), due = new TreeSet<>(Set.of(FACE));
    for (Method m : UnnestPlans.class.getDeclaredMethods()) {
      if (Modifier.isPrivate(m.getModifiers())) continue;
      hold(Modifier.isPublic(m.getModifiers()) && !Modifier.isStatic(m.getModifiers()), "only public methods: " + m);
      StringBuilder b = new StringBuilder(m.getReturnType() + " " + m.getName() + "(");
      for (int i = 0; i < m.getParameterCount(); i++) b.append(i > 0 ? "," : "").append(m.getParameterTypes()[i]);
      methods.add(b.append(")").toString());
      names.add(m.getName());
    }
    hold(methods.equals(due), "the methods of the face: " + methods);
    for (Method m : UnnestPlans.class.getDeclaredMethods()) {
      hold(!Modifier.isPrivate(m.getModifiers()) || !names.contains(m.getName()), "a private method with a public one's name: " + m);
    }
    Set<String> fields = new TreeSet<>();
    for (Field f : UnnestPlans.class.getDeclaredFields()) if (!Modifier.isPrivate(f.getModifiers())) fields.add(f.getName());
    hold(fields.equals(Set.of("NONE", "BAD", "NOT", "FULL")), "the constants of the face: " + fields);
    String[] constants = {"NONE", "BAD", "NOT", "FULL"};
    for (int i = 0; i < 4; i++) {
      Field f = UnnestPlans.class.getDeclaredField(constants[i]);
      hold(f.getModifiers() == (Modifier.PUBLIC | Modifier.STATIC | Modifier.FINAL) && f.getType() == int.class, "a public constant, an int: " + f);
      hold(f.getInt(null) == -1 - i, "the value of " + f);
    }
    Constructor<?>[] made = UnnestPlans.class.getDeclaredConstructors();
    hold(made.length == 1 && made[0].getParameterCount() == 0 && Modifier.isPublic(made[0].getModifiers()), "one public constructor");
    hold(Modifier.isFinal(UnnestPlans.class.getModifiers()) && Modifier.isPublic(UnnestPlans.class.getModifiers()), "a public, final class");
    hold(UnnestPlans.class.getPackageName().isEmpty() && UnnestPlans.class.getInterfaces().length == 0, "no package, no interface");
    for (Class<?> c : UnnestPlans.class.getDeclaredClasses()) {
      hold(Modifier.isStatic(c.getModifiers()) && !Modifier.isPublic(c.getModifiers()), "static classes inside: " + c);
      for (Method m : c.getDeclaredMethods()) hold(!names.contains(m.getName()), "a method inside with a public one's name: " + m);
    }
    hold(UnnestPlans.class.getDeclaredClasses().length <= 12, "at most some twelve classes");
  }

  /** Rule 11, and rule 5: static fields are final. */
  private static void sizes() throws Exception {
    List<Class<?>> classes = new ArrayList<>(List.of(UnnestPlans.class.getDeclaredClasses()));
    classes.add(UnnestPlans.class);
    for (Class<?> c : classes) {
      int own = 0;
      for (Field f : c.getDeclaredFields()) {
        hold(!Modifier.isStatic(f.getModifiers()) || Modifier.isFinal(f.getModifiers()), "static fields are final: " + f);
        if (!Modifier.isStatic(f.getModifiers())) own++;
      }
      hold(own <= 20, "some twenty fields: " + c + " has " + own);
      for (Method m : c.getDeclaredMethods()) hold(m.getParameterCount() <= 7, "at most seven parameters: " + m);
    }
    List<String> lines = Files.readAllLines(Path.of("src/main/java/UnnestPlans.java"));
    Pattern begins = Pattern.compile("^( {4}| {8})(?! |if |for |while |switch |do |else )[\\w\\[\\] ]+\\(.*\\) \\{$");
    int methods = 0;
    for (int i = 0; i < lines.size(); i++) {
      Matcher m = begins.matcher(lines.get(i));
      if (!m.matches()) continue;
      methods++;
      int ends = i;
      while (ends < lines.size() && !lines.get(ends).equals(m.group(1) + "}")) ends++;
      hold(ends - i < 60, "methods stay short: " + lines.get(i).trim());
    }
    hold(methods > 26, "methods were found: " + methods);
  }

  private static void words() throws Exception {
    String source = Files.readString(Path.of("src/main/java/UnnestPlans.java"));
    hold(source.chars().allMatch(c -> c == '\n' || c >= 32 && c < 127), "plain signs alone");
    String code = source.replaceAll("(?s)/\\*.*?\\*/", "").replaceAll("//[^\n]*", "").replaceAll("'.'", "0");
    String[] banned = {"throw", "throws", "try", "catch", "synchronized", "assert", "package", "Float", "Double", "Object", "var",
        "hashCode", "toString", "Exception", "Random", "Thread", "protected", "native", "goto"};
    for (String word : banned) hold(!Pattern.compile("\\b" + word + "\\b").matcher(code).find(), "no word " + word);
    hold(!code.contains("->") && !code.contains("::") && !code.contains("Exact("), "no lambda, no reference, nothing Exact");
    Matcher imports = Pattern.compile("import ([^;]*);").matcher(code);
    while (imports.find()) hold(imports.group(1).equals("java.util.Arrays"), "no import of " + imports.group(1));
    Matcher library = Pattern.compile("\\b(Math|System|Arrays|Integer|Long|String)\\.(\\w+)").matcher(code);
    Set<String> listed = Set.of("Math.max", "Math.min", "System.arraycopy", "Arrays.fill");
    while (library.find()) hold(listed.contains(library.group()), "no use of " + library.group());
  }

  private static void typeAll(UnnestPlans x, int text, String s) {
    for (int i = 0; i < s.length(); i++) x.type(text, s.charAt(i));
  }

  /** Calls make no objects, so that only new objects of the class take room. */
  private static void room() {
    com.sun.management.ThreadMXBean bean = (com.sun.management.ThreadMXBean) ManagementFactory.getThreadMXBean();
    if (!bean.isThreadAllocatedMemorySupported() || !bean.isThreadAllocatedMemoryEnabled()) return;
    UnnestPlans x = new UnnestPlans();
    bean.getCurrentThreadAllocatedBytes();
    long start = bean.getCurrentThreadAllocatedBytes();
    x = new UnnestPlans();
    long made = bean.getCurrentThreadAllocatedBytes() - start;
    hold(made < 40000, "a new object takes less than 40000 bytes: " + made);
    typeAll(x, 0, "09;18;27;36;45;54;63;72;81;90");
    typeAll(x, 1, "99;98;97;96;95;94;93;92;91;90");
    typeAll(x, 2, "udmgudmgudmg");
    start = bean.getCurrentThreadAllocatedBytes();
    for (int i = 0; i < 100; i++) {
      x.end(i % 9);
      x.sheet(i % 4, i % 3, i % 61);
      x.write(i % 2, i % 4);
      x.read(i % 3, i % 4);
      x.copy(0, 0, 1, 0, 1);
      x.spare();
      x.digest();
    }
    long calls = bean.getCurrentThreadAllocatedBytes() - start;
    hold(calls < 20000, "700 calls take no room of their own: " + calls);
  }

  public static void main(String[] args) throws Exception {
    face();
    sizes();
    words();
    room();
    System.out.println(wrong == 0 ? "the form is as due" : wrong + " things are not as due");
    if (wrong != 0) System.exit(1);
  }
}
