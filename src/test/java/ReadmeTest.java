import java.io.ByteArrayOutputStream;
import java.io.File;
import java.io.IOException;
import java.io.PrintStream;
import java.net.URL;
import java.net.URLClassLoader;
import java.nio.file.Files;
import java.nio.file.Path;
import java.util.ArrayList;
import java.util.List;
import java.util.regex.Matcher;
import java.util.regex.Pattern;
import java.util.stream.Stream;
import javax.tools.ToolProvider;

/** README.md: its example prints what stands behind its lines, and its tables leave out no method, class and test. */
final class ReadmeTest {
  private static final Check CHECK = new Check();
  private static final Pattern BLOCK = Pattern.compile("```java\n(.*?)```", Pattern.DOTALL);
  private static final Pattern PRINTED = Pattern.compile("println\\(.*\\); +// ([^:\\s]+)");

  private static List<String> printedBy(String example) throws IOException, ReflectiveOperationException {
    Path folder = Files.createTempDirectory("readme");
    Path source = Files.writeString(folder.resolve("Example.java"), example);
    ByteArrayOutputStream written = new ByteArrayOutputStream();
    PrintStream before = System.out;
    try (URLClassLoader loader = new URLClassLoader(new URL[] {folder.toUri().toURL()})) {
      int failed = ToolProvider.getSystemJavaCompiler().run(null, null, null, "-Xlint:all", "-Werror", "-proc:none",
          "-cp", System.getProperty("java.class.path"), "-d", folder.toString(), source.toString());
      CHECK.due("faults of the compiler", failed, 0);
      if (failed == 0) {
        System.setOut(new PrintStream(written, true));
        loader.loadClass("Example").getMethod("main", String[].class).invoke(null, (Object) new String[0]);
      }
    } finally {
      System.setOut(before);
      remove(folder);
    }
    return written.toString().lines().toList();
  }

  private static void remove(Path folder) throws IOException {
    try (Stream<Path> inside = Files.list(folder)) {
      for (Path file : inside.toList()) {
        Files.delete(file);
      }
    }
    Files.delete(folder);
  }

  private static void example(String readme) throws IOException, ReflectiveOperationException {
    Matcher block = BLOCK.matcher(readme);
    CHECK.due("there is an example", block.find() ? 1 : 0, 1);
    List<String> told = new ArrayList<>();
    Matcher line = PRINTED.matcher(block.group(1));
    while (line.find()) {
      told.add(line.group(1));
    }
    List<String> printed = printedBy(block.group(1));
    CHECK.due("lines that the example prints", printed.size(), told.size());
    for (int i = 0; i < Math.min(printed.size(), told.size()); i++) {
      CHECK.due("line " + i + ", told as " + told.get(i) + ", is " + printed.get(i) + ":",
          told.get(i).equals(printed.get(i)) ? 1 : 0, 1);
    }
  }

  private static void named(String readme, String name) {
    CHECK.due("is named: " + name, readme.contains("`" + name) ? 1 : 0, 1);
  }

  public static void main(String[] args) throws IOException, ReflectiveOperationException {
    String readme = Files.readString(Path.of("README.md"));
    example(readme);
    for (java.lang.reflect.Method m : RoundTypes.class.getMethods()) {
      if (m.getDeclaringClass() == RoundTypes.class) {
        named(readme, m.getName() + "(");
      }
    }
    for (Class<?> inside : RoundTypes.class.getDeclaredClasses()) {
      named(readme, inside.getSimpleName() + "`");
    }
    for (File test : new File("src/test/java").listFiles((folder, name) -> name.endsWith("Test.java"))) {
      named(readme, test.getName().replace(".java", "`"));
    }
    CHECK.end();
  }
}
