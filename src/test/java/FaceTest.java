import java.lang.reflect.Constructor;
import java.lang.reflect.Field;
import java.lang.reflect.Method;
import java.lang.reflect.Modifier;
import java.nio.file.Files;
import java.nio.file.Path;
import java.util.ArrayList;
import java.util.List;
import java.util.Set;
import java.util.TreeSet;
import java.util.regex.Matcher;
import java.util.regex.Pattern;

/** The public face, and such rules of LANGUAGE.md as a machine can look at. */
public final class FaceTest {
  private static final String[] FACE = {
      "int write(int)", "int wipe()", "int fault()", "int table()", "int cell(int, int)", "int marble(int, int)",
      "int tilt(int)", "int lift(int, int)", "int wedge(int)", "int undo()", "int rolls(int, int)", "int safe()",
      "int fewest(int, boolean)", "int reach(int)", "int best(int, boolean)", "int saves(int, int)",
      "int judge(int, long)", "int see(int, int, int)", "int unsee()", "int hidden()", "int share(int, boolean)",
      "int rests(int)", "int fails(int, int, int, int, boolean)", "long seed(long)", "int days(int)", "int keep(int)",
      "int again(int)", "int count(int)"};
  private static final Set<String> CONSTANTS = Set.of("UNKNOWN", "OUTSIDE", "STATE", "FULL", "NONE");
  private static int wrong = 0;

  private static void hold(boolean holds, String what) {
    if (!holds) {
      wrong++;
      System.out.println("does not hold: " + what);
    }
  }

  private static String told(Method m) {
    List<String> types = new ArrayList<>();
    for (Class<?> c : m.getParameterTypes()) types.add(c.getSimpleName());
    return m.getReturnType().getSimpleName() + " " + m.getName() + "(" + String.join(", ", types) + ")";
  }

  private static void face() {
    Set<String> open = new TreeSet<>();
    for (Method m : TiltTray.class.getDeclaredMethods()) {
      if (m.isSynthetic()) continue;
      if (Modifier.isPublic(m.getModifiers()) && !Modifier.isStatic(m.getModifiers())) open.add(told(m));
      else hold(Modifier.isPrivate(m.getModifiers()), m.getName() + " is private");
    }
    hold(open.equals(new TreeSet<>(List.of(FACE))), "the public methods are those of the document: " + open);
    Constructor<?>[] made = TiltTray.class.getDeclaredConstructors();
    hold(made.length == 1 && made[0].getParameterCount() == 0 && Modifier.isPublic(made[0].getModifiers()),
        "one public constructor without parameters");
    hold(Modifier.isFinal(TiltTray.class.getModifiers()) && Modifier.isPublic(TiltTray.class.getModifiers()),
        "the class is public and final");
    for (Field f : TiltTray.class.getDeclaredFields()) {
      boolean constant = CONSTANTS.contains(f.getName());
      int mods = f.getModifiers();
      hold(constant ? Modifier.isPublic(mods) && Modifier.isStatic(mods) && Modifier.isFinal(mods)
          && f.getType() == int.class : Modifier.isPrivate(mods), "field " + f.getName());
    }
  }

  private static void classesInside() {
    Set<String> open = new TreeSet<>();
    for (String call : FACE) open.add(call.replaceAll("^\\w+ |\\(.*", ""));
    List<Class<?>> all = new ArrayList<>(List.of(TiltTray.class.getDeclaredClasses()));
    hold(all.size() <= 11, "twelve classes at most");
    all.add(TiltTray.class);
    for (Class<?> c : all) {
      int fields = 0;
      for (Field f : c.getDeclaredFields()) {
        if (!Modifier.isStatic(f.getModifiers())) fields++;
        else hold(Modifier.isFinal(f.getModifiers()), "static " + f.getName() + " is final");
      }
      hold(fields <= 20, c.getName() + " has twenty fields at most");
      for (Method m : c.getDeclaredMethods()) {
        hold(m.getParameterCount() <= 7, m.getName() + " has seven parameters at most");
        hold(c == TiltTray.class && Modifier.isPublic(m.getModifiers()) || !open.contains(m.getName()),
            m.getName() + " bears no name of the face");
      }
      if (c == TiltTray.class) continue;
      int mods = c.getModifiers();
      hold(Modifier.isStatic(mods) && !Modifier.isPublic(mods) && !Modifier.isProtected(mods), c + " is static, inside");
    }
  }

  private static String withoutCommentsAndTexts(String source) {
    return source.replaceAll("(?s)/\\*.*?\\*/", "").replaceAll("//[^\n]*", "").replaceAll("\"[^\"\n]*\"", "\"\"");
  }

  private static void source() throws Exception {
    String whole = Files.readString(Path.of("src/main/java/TiltTray.java"));
    String code = withoutCommentsAndTexts(whole);
    for (char c : whole.toCharArray()) hold(c == '\n' || c >= 32 && c < 127, "plain signs only");
    String[] barred = {"\\bthrow\\b", "\\bthrows\\b", "\\btry\\b", "\\bcatch\\b", "\\bfinally\\b", "\\bsynchronized\\b",
        "\\bassert\\b", "->", "::", "\\bimport\\b", "\\bpackage\\b", "\\bvar\\b", "Exact\\b", "\\bSystem\\b", "\\bThread\\b",
        "\\bhashCode\\b", "\\btoString\\b", "\\bequals\\b", "\\bprotected\\b", "\\bObject\\b", "static\\s*\\{"};
    for (String word : barred) hold(!Pattern.compile(word).matcher(code).find(), "no " + word);
    shortMethods(code);
    newOnlyWhenMade(code);
  }

  private static void shortMethods(String code) {
    Matcher m = Pattern.compile("(?m)^( +)(?:[a-zA-Z\\[\\]]+ )*(\\w+)\\([^;{]*\\) \\{$").matcher(code);
    while (m.find()) {
      if (Set.of("if", "for", "while", "switch").contains(m.group(2))) continue;
      int end = code.indexOf("\n" + m.group(1) + "}", m.end());
      long lines = code.substring(m.start(), end).lines().count();
      hold(lines <= 60, m.group(2) + " has sixty lines at most, not " + lines);
    }
  }

  /** All rows are made with the object: a call makes none. */
  private static void newOnlyWhenMade(String code) {
    for (String line : code.split("\n")) {
      if (!line.contains("new ")) continue;
      boolean field = line.matches(" +(private )?(final )?[A-Z]?\\w+(\\[\\])? \\w+ = new .*;");
      boolean filled = line.matches(" +(slots\\[slot\\]|ahead\\[act\\]|level\\[depth\\]) = new Spot\\(\\);");
      hold(field || filled, "made with the object: " + line.trim());
    }
  }

  public static void main(String[] args) throws Exception {
    face();
    classesInside();
    source();
    System.out.println(wrong == 0 ? "the face and the rules hold" : wrong + " do not hold");
    if (wrong != 0) System.exit(1);
  }
}
