import java.io.IOException;
import java.lang.reflect.Method;
import java.lang.reflect.Modifier;
import java.net.URL;
import java.net.URLClassLoader;
import java.nio.file.Files;
import java.nio.file.Path;
import java.util.Comparator;
import java.util.List;
import java.util.regex.Matcher;
import java.util.regex.Pattern;
import java.util.stream.Stream;
import javax.tools.ToolProvider;

/** README.md shows how the class is used: its example must compile and answer as it says. */
public final class ReadmeTest {
  private static final Pattern EXAMPLE = Pattern.compile("(?s)```java\n(.*?)```");
  private static final Pattern CALL = Pattern.compile("(seats\\.\\w+\\(.*?\\)); *// (-?\\d+)(?: \\(([A-Z]+)\\))?.*");
  private static int wrong = 0;

  private static void tell(String what) {
    wrong++;
    System.out.println(what);
  }

  public static void main(String[] args) throws Exception {
    String page = Files.readString(Path.of("README.md"));
    Matcher example = EXAMPLE.matcher(page);
    if (!example.find()) tell("README.md has no example");
    else run(example.group(1), page);
    if (!page.contains(".ci/run")) tell("README.md does not say how the tests are run");
    System.out.println(wrong == 0 ? "README.md is as the class is" : wrong + " things of README.md are wrong");
    if (wrong != 0) System.exit(1);
  }

  private static void run(String example, String page) throws Exception {
    for (Method m : LoneSeats.class.getDeclaredMethods()) {
      if (!Modifier.isPublic(m.getModifiers())) continue;
      if (!example.contains("seats." + m.getName() + "(")) tell("the example leaves out " + m.getName());
      if (!isTold(page, m)) tell("the table leaves out " + m.getName());
    }
    Path dir = Files.createTempDirectory("readme");
    try {
      runIn(dir, asClass(example));
    } finally {
      delete(dir);
    }
  }

  /** Whether the page has the call in its own marks, with a name for each parameter. */
  private static boolean isTold(String page, Method m) {
    int more = m.getParameterCount() - 1;
    String names = more < 0 ? "" : "\\w+(?:, \\w+){" + more + "}";
    return Pattern.compile("`" + m.getName() + "\\(" + names + "\\)`").matcher(page).find();
  }

  /** The example as a class that compares each answer with the one that the page says. */
  private static String asClass(String example) {
    StringBuilder b = new StringBuilder("public final class Example {\n  public static int wrong = 0;\n"
        + "  static void due(String call, long got, long want) {\n    if (got != want) {\n      wrong++;\n"
        + "      System.out.println(call + \" answered \" + got + \", README.md says \" + want);\n    }\n  }\n"
        + "  public static void run() {\n");
    for (String line : example.split("\n")) {
      Matcher call = CALL.matcher(line);
      if (!call.matches()) {
        if (line.startsWith("seats.")) tell("without an answer: " + line);
        b.append(line).append('\n');
        continue;
      }
      b.append("due(\"").append(call.group(1)).append("\", ").append(call.group(1)).append(", ")
          .append(call.group(2)).append(");\n");
      if (call.group(3) != null) {
        b.append("due(\"").append(call.group(3)).append("\", LoneSeats.").append(call.group(3)).append(", ")
            .append(call.group(2)).append(");\n");
      }
    }
    return b.append("  }\n}\n").toString();
  }

  private static void runIn(Path dir, String source) throws Exception {
    Path file = dir.resolve("Example.java");
    Files.writeString(file, source);
    int code = ToolProvider.getSystemJavaCompiler().run(null, null, null, "-cp",
        System.getProperty("java.class.path"), "-d", dir.toString(), file.toString());
    if (code != 0) {
      tell("the example does not compile");
      return;
    }
    try (URLClassLoader loader = new URLClassLoader(new URL[] {dir.toUri().toURL()})) {
      Class<?> made = loader.loadClass("Example");
      made.getMethod("run").invoke(null);
      wrong += made.getField("wrong").getInt(null);
    }
  }

  private static void delete(Path dir) throws IOException {
    List<Path> all;
    try (Stream<Path> files = Files.walk(dir)) {
      all = files.sorted(Comparator.reverseOrder()).toList();
    }
    for (Path path : all) Files.delete(path);
  }
}
