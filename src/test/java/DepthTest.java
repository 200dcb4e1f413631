import java.io.ByteArrayOutputStream;
import java.io.PrintStream;
import java.util.ArrayList;
import java.util.HashMap;
import java.util.HashSet;
import java.util.List;
import java.util.Map;
import java.util.Set;
import java.util.TreeSet;
import java.util.regex.Matcher;
import java.util.regex.Pattern;
import java.util.spi.ToolProvider;

/** Calls go at most eight deep, the public method counted, and no method calls itself. */
public final class DepthTest {
  private static final int DEEPEST = 8;
  private static final Pattern OF_CLASS = Pattern.compile("(?:\\w+ )*class (LoneSeats[\\w$]*).*\\{");
  private static final Pattern BEGINS = Pattern.compile("  (?:[\\w\\[\\]$]+ )*([\\w$]+)\\((.*)\\);");
  private static final Pattern CALLS = Pattern.compile(".*// Method (?:(LoneSeats[\\w$]*)\\.)?\"?([\\w<>]+)\"?:.*");
  private static final Map<String, Set<String>> CALLED = new HashMap<>();
  private static final Map<String, List<String>> CHAINS = new HashMap<>();

  public static void main(String[] args) {
    read(disassembled());
    List<String> deepest = new ArrayList<>();
    for (String method : new TreeSet<>(CALLED.keySet())) {
      List<String> chain = chainFrom(method, new HashSet<>());
      if (chain.size() > deepest.size()) deepest = chain;
    }
    boolean holds = CALLED.containsKey("LoneSeats.judge") && deepest.size() > 1 && deepest.size() <= DEEPEST;
    System.out.println((holds ? "" : "not so: at most " + DEEPEST + " deep: ")
        + "the deepest chain of calls has " + deepest.size() + " methods: " + deepest);
    if (!holds) System.exit(1);
  }

  private static String[] disassembled() {
    ByteArrayOutputStream out = new ByteArrayOutputStream();
    List<String> options = new ArrayList<>(List.of("-c", "-p", "-cp", System.getProperty("java.class.path"),
        LoneSeats.class.getName()));
    for (Class<?> inside : LoneSeats.class.getDeclaredClasses()) options.add(inside.getName());
    PrintStream to = new PrintStream(out, true);
    int code = ToolProvider.findFirst("javap").orElseThrow().run(to, to, options.toArray(new String[0]));
    if (code != 0) System.out.println("javap fails: " + out);
    return out.toString().split("\n");
  }

  private static void read(String[] lines) {
    String ofClass = "";
    String method = "";
    for (String line : lines) {
      Matcher begun = OF_CLASS.matcher(line);
      Matcher begins = BEGINS.matcher(line);
      Matcher calls = CALLS.matcher(line);
      if (begun.matches()) {
        ofClass = begun.group(1);
      } else if (begins.matches()) {
        boolean makes = begins.group(1).equals(ofClass);
        method = ofClass + "." + (makes ? "<init>" : begins.group(1));
        CALLED.computeIfAbsent(method, m -> new TreeSet<>());
      } else if (calls.matches() && !line.contains("Method java/")) {
        String other = calls.group(1) == null ? ofClass : calls.group(1);
        CALLED.get(method).add(other + "." + calls.group(2));
      }
    }
  }

  private static List<String> chainFrom(String method, Set<String> open) {
    if (!open.add(method)) {
      System.out.println("not so: no method calls itself: " + method);
      System.exit(1);
    }
    if (!CHAINS.containsKey(method)) {
      List<String> longest = new ArrayList<>();
      for (String next : CALLED.getOrDefault(method, Set.of())) {
        List<String> chain = chainFrom(next, open);
        if (chain.size() > longest.size()) longest = chain;
      }
      List<String> own = new ArrayList<>(List.of(method));
      own.addAll(longest);
      CHAINS.put(method, own);
    }
    open.remove(method);
    return CHAINS.get(method);
  }
}
