import java.io.File;
import java.lang.reflect.Method;
import java.lang.reflect.Modifier;
import java.net.URL;
import java.net.URLClassLoader;
import java.nio.file.Files;
import java.nio.file.Path;
import java.util.ArrayList;
import java.util.List;
import java.util.Set;
import java.util.TreeSet;
import java.util.regex.Matcher;
import java.util.regex.Pattern;
import javax.tools.ToolProvider;

/** What README.md says: each answer that it shows, that it shows each call, its commands, its paths, its tests. */
public final class ReadmeTest {
  private static final Pattern ANSWER = Pattern.compile("^(tray\\.\\w+\\(.*\\)); +// (-?\\d+): .*$");
  private static int wrong = 0;

  private static void hold(boolean holds, String what) {
    if (!holds) {
      wrong++;
      System.out.println("does not hold: " + what);
    }
  }

  /** The lines of all blocks of a language, one behind the other. */
  private static List<String> linesOf(String page, String language) {
    List<String> lines = new ArrayList<>();
    Matcher block = Pattern.compile("(?s)```" + language + "\n(.*?)```").matcher(page);
    while (block.find()) lines.addAll(block.group(1).lines().toList());
    return lines;
  }

  private static void everyCallIsShown(String page) {
    String shown = String.join("\n", linesOf(page, "java"));
    for (Method m : TiltTray.class.getDeclaredMethods()) {
      if (!Modifier.isPublic(m.getModifiers())) continue;
      hold(shown.contains("tray." + m.getName() + "("), m.getName() + " is shown");
    }
  }

  /** The page's code as a program of its own, each told answer held against the one that is given. */
  private static String programOf(List<String> lines) {
    StringBuilder program = new StringBuilder("public final class ReadmeUse {\n  public static String use() {\n"
        + "    StringBuilder faults = new StringBuilder();\n");
    for (String line : lines) {
      Matcher told = ANSWER.matcher(line);
      if (!told.matches()) {
        hold(!line.startsWith("tray."), "an answer stands behind: " + line);
        program.append(line).append('\n');
        continue;
      }
      program.append("{ long got = ").append(told.group(1)).append("; if (got != ").append(told.group(2))
          .append("L) faults.append(\"").append(told.group(1)).append(" answers \").append(got).append('\\n'); }\n");
    }
    return program.append("    return faults.toString();\n  }\n}\n").toString();
  }

  private static void answersAreSo(String page, Path room) throws Exception {
    Path source = room.resolve("ReadmeUse.java");
    Files.writeString(source, programOf(linesOf(page, "java")));
    int made = ToolProvider.getSystemJavaCompiler().run(null, null, null, "-cp",
        System.getProperty("java.class.path"), "-d", room.toString(), source.toString());
    hold(made == 0, "the page's code compiles");
    if (made != 0) return;
    try (URLClassLoader loader = new URLClassLoader(new URL[] {room.toUri().toURL()})) {
      String faults = (String) loader.loadClass("ReadmeUse").getMethod("use").invoke(null);
      hold(faults.isEmpty(), "the page's answers, but " + faults);
    }
  }

  /** Each command but .ci/run, by which this test is run itself. */
  private static void commandsRun(String page, Path room) throws Exception {
    List<String> commands = linesOf(page, "sh");
    hold(commands.contains(".ci/run"), ".ci/run is named");
    hold(Files.isExecutable(Path.of(".ci/run")), ".ci/run can be run");
    for (String command : commands) {
      if (command.equals(".ci/run")) continue;
      File out = room.resolve("out").toFile();
      String here = command.replace("/tmp/tilttray", room.resolve("classes").toString());
      int code = new ProcessBuilder("sh", "-c", here).redirectErrorStream(true).redirectOutput(out).start().waitFor();
      hold(code == 0, command + " ends with " + code + ": " + Files.readString(out.toPath()));
    }
  }

  private static void pathsAreThere(String page) {
    Matcher path = Pattern.compile("`([\\w.]+(?:/[\\w.]+)+)`").matcher(page);
    while (path.find()) hold(Files.exists(Path.of(path.group(1))), path.group(1) + " is there");
  }

  private static void testsAreNamed(String page) {
    Set<String> named = new TreeSet<>();
    Matcher test = Pattern.compile("(?m)^- `(\\w+)`:").matcher(page);
    while (test.find()) named.add(test.group(1) + ".java");
    Set<String> there = new TreeSet<>(List.of(new File("src/test/java").list()));
    hold(named.equals(there), "the tests are " + there + ", the page names " + named);
  }

  private static void constantsAreSo(String page) throws Exception {
    String[] names = {"UNKNOWN", "OUTSIDE", "STATE", "FULL", "NONE"};
    for (String name : names) {
      String told = "`" + name + "` (" + TiltTray.class.getField(name).getInt(null) + ")";
      hold(page.contains(told), told);
    }
  }

  private static void removeAll(File file) {
    File[] inside = file.listFiles();
    if (inside != null) for (File one : inside) removeAll(one);
    file.delete();
  }

  public static void main(String[] args) throws Exception {
    String page = Files.readString(Path.of("README.md"));
    Path room = Files.createTempDirectory("readme");
    everyCallIsShown(page);
    answersAreSo(page, room);
    commandsRun(page, room);
    pathsAreThere(page);
    testsAreNamed(page);
    constantsAreSo(page);
    removeAll(room.toFile());
    System.out.println(wrong == 0 ? "the page is as the class" : wrong + " do not hold");
    if (wrong != 0) System.exit(1);
  }
}
