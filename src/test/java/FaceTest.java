import java.lang.reflect.Constructor;
import java.lang.reflect.Field;
import java.lang.reflect.Method;
import java.lang.reflect.Modifier;
import java.nio.file.Files;
import java.nio.file.Path;
import java.util.Arrays;
import java.util.Set;
import java.util.TreeSet;
import java.util.regex.Matcher;
import java.util.regex.Pattern;
import java.util.stream.Collectors;

/** The public face of the document, and those rules of LANGUAGE.md that can be seen from outside. */
public final class FaceTest {
  private static final String[] METHODS = {"int write(int)", "int wipe()", "int fault()", "int hall()",
      "int row(int,int)", "int seat(int,int,int)", "int party(int,int)", "int ask(int,int)",
      "int giveBack(int)", "int leave(int)", "int shift(int)", "int price(int,int)", "int fee(int)",
      "int undo()", "int best(int,int,int)", "int room(int)", "int waits(int)", "int judge(int,long)",
      "int see(int,int,int)", "int unsee()", "int which()", "int share(int,int,boolean)",
      "int away(int,int,int,boolean)", "long seed(long)", "int drawn(int)", "int keep(int)",
      "int again(int)", "int count(int)"};
  private static final String[] BANNED = {"throw", "throws", "try", "catch", "synchronized", "assert",
      "import", "package", "native", "volatile", "transient", "protected", "->", "::", "hashCode",
      "System\\.(?!arraycopy)", "Exact", "Thread", "Random", "\\.equals\\("};
  private static int wrong = 0;

  private static void check(String what, boolean holds) {
    if (!holds) {
      wrong++;
      System.out.println("not so: " + what);
    }
  }

  public static void main(String[] args) throws Exception {
    face();
    for (Class<?> inside : LoneSeats.class.getDeclaredClasses()) nested(inside);
    members(LoneSeats.class);
    check("at most twelve classes", LoneSeats.class.getDeclaredClasses().length < 12);
    source(Files.readString(Path.of("src/main/java/LoneSeats.java")));
    System.out.println(wrong == 0 ? "the face is as told" : wrong + " things are not as told");
    if (wrong != 0) System.exit(1);
  }

  private static void face() {
    Class<?> c = LoneSeats.class;
    check("public and final", c.getModifiers() == (Modifier.PUBLIC | Modifier.FINAL));
    Set<String> found = new TreeSet<>();
    for (Method m : c.getDeclaredMethods()) {
      if (Modifier.isPrivate(m.getModifiers())) continue;
      check(m + " is just public", m.getModifiers() == Modifier.PUBLIC);
      found.add(m.getReturnType() + " " + m.getName() + "(" + Arrays.stream(m.getParameterTypes())
          .map(Class::getName).collect(Collectors.joining(",")) + ")");
    }
    check("the methods " + found, found.equals(new TreeSet<>(Arrays.asList(METHODS))));
    Constructor<?>[] made = c.getDeclaredConstructors();
    check("one public constructor", made.length == 1 && made[0].getParameterCount() == 0
        && Modifier.isPublic(made[0].getModifiers()));
    Set<String> constants = new TreeSet<>();
    for (Field f : c.getDeclaredFields()) {
      if (!Modifier.isPrivate(f.getModifiers())) constants.add(f.getType() + " " + f.getName());
    }
    check("the constants " + constants, constants.equals(Set.of("int UNKNOWN", "int OUTSIDE",
        "int STATE", "int FULL", "int NONE")));
    check("their values", LoneSeats.UNKNOWN == -1 && LoneSeats.OUTSIDE == -2 && LoneSeats.STATE == -3
        && LoneSeats.FULL == -4 && LoneSeats.NONE == -9);
  }

  private static void nested(Class<?> c) {
    int modifiers = c.getModifiers();
    check(c + " is static", Modifier.isStatic(modifiers));
    check(c + " is hidden", !Modifier.isPublic(modifiers) && !Modifier.isProtected(modifiers));
    for (Method m : c.getDeclaredMethods()) check(m + " has a name of its own", !isOfFace(m.getName()));
    members(c);
  }

  private static boolean isOfFace(String name) {
    return Arrays.stream(METHODS).anyMatch(m -> m.contains(" " + name + "("));
  }

  private static void members(Class<?> c) {
    int fields = 0;
    for (Field f : c.getDeclaredFields()) {
      if (Modifier.isStatic(f.getModifiers())) check(f + " is final", Modifier.isFinal(f.getModifiers()));
      else fields++;
    }
    check(c + " has at most twenty fields", fields <= 20);
    for (Method m : c.getDeclaredMethods()) {
      check(m + " takes at most seven", m.getParameterCount() <= 7);
      boolean isPrivate = Modifier.isPrivate(m.getModifiers());
      check(m + " has a name of its own", !isPrivate || !isOfFace(m.getName()));
    }
  }

  private static void source(String source) {
    String code = source.replaceAll("(?s)/\\*.*?\\*/", "").replaceAll("//[^\n]*", "");
    for (String banned : BANNED) {
      String word = Character.isLetter(banned.charAt(0)) ? "\\b" + banned : banned;
      if (Character.isLetter(banned.charAt(banned.length() - 1))) word += "\\b";
      Matcher m = Pattern.compile(word).matcher(code);
      check("without " + banned, !m.find());
    }
    check("ASCII alone", source.chars().allMatch(ch -> ch == '\n' || ch >= 32 && ch < 127));
    int longest = 0, length = 0;
    for (String line : source.split("\n")) {
      length = line.isBlank() ? 0 : length + 1;
      longest = Math.max(longest, length);
    }
    check("no stretch of over sixty lines: " + longest, longest <= 60);
  }
}
