import java.util.ArrayList;
import java.util.Arrays;
import java.util.List;
import java.util.Random;
import java.util.TreeMap;

/** Random runs of at most 512 calls, answered by LoneSeats and by the Model; the answers must agree. */
public final class ModelTest {
  private static final int RUNS = 2500;
  private static final int CALLS = 512;
  private static final String[] NAMES = {"write", "wipe", "fault", "hall", "row", "seat", "party",
      "ask", "giveBack", "leave", "shift", "price", "fee", "undo", "best", "room", "waits", "judge",
      "see", "unsee", "which", "share", "away", "seed", "drawn", "keep", "again", "count"};
  /** How often each call comes in a run; the text is mostly written by whole halls. */
  private static final int[] OFTEN = {2, 1, 2, 2, 20, 20, 30,
      120, 40, 8, 40, 25, 12, 35, 30, 12, 12, 60,
      14, 3, 20, 25, 30, 4, 25, 6, 6, 25};

  private final Random random;
  private final LoneSeats seats = new LoneSeats();
  private final Model model = new Model();
  private final List<String> calls = new ArrayList<>();
  private static final TreeMap<String, Integer> SEEN = new TreeMap<>();

  private ModelTest(long seed) {
    random = new Random(seed);
  }

  public static void main(String[] args) {
    int runs = args.length > 0 ? Integer.parseInt(args[0]) : RUNS;
    for (int run = 0; run < runs; run++) {
      String wrong = new ModelTest(run).run();
      if (wrong != null) {
        System.out.println("run " + run + ": " + wrong);
        System.exit(1);
      }
    }
    if (args.length > 1) System.out.println(SEEN);
    System.out.println(runs + " random runs agree with the model");
  }

  private String run() {
    int left = CALLS;
    boolean fresh = random.nextInt(10) == 0;
    while (left > 0) {
      String wrong;
      if (!fresh || random.nextInt(150) == 0) {
        int before = calls.size();
        wrong = newHall();
        left -= calls.size() - before;
        fresh = true;
      } else {
        wrong = step(pick());
        left--;
      }
      if (wrong != null) return wrong + " after " + calls;
    }
    return null;
  }

  private int pick() {
    int at = random.nextInt(Arrays.stream(OFTEN).sum());
    for (int i = 0; i < OFTEN.length; i++) {
      at -= OFTEN[i];
      if (at < 0) return i;
    }
    return 0;
  }

  private String newHall() {
    String wrong = step(1);
    for (char c : hallText().toCharArray()) if (wrong == null) wrong = compare(0, c, 0, 0, 0, false);
    if (wrong == null) wrong = step(2);
    return wrong == null ? step(3) : wrong;
  }

  private String hallText() {
    StringBuilder b = new StringBuilder("H");
    int rows = random.nextInt(8) == 0 ? random.nextInt(6) : 1 + random.nextInt(4);
    int spread = 1 + random.nextInt(10);
    for (int r = 0; r < rows; r++) {
      b.append('r').append(1 + random.nextInt(9));
      int seats = random.nextInt(3) == 0 ? 1 + random.nextInt(9) : 5 + random.nextInt(5);
      int aisles = random.nextInt(4);
      for (int s = 0; s < seats; s++) {
        if (s > 0 && random.nextInt(6) < aisles) b.append('|');
        b.append(random.nextInt(spread));
      }
    }
    for (int i = random.nextInt(10) == 0 ? 1 + random.nextInt(2) : 0; i > 0; i--) {
      int at = random.nextInt(b.length());
      char c = "Hr|0123456789x\u0000\u00ff".charAt(random.nextInt(16));
      switch (random.nextInt(3)) {
        case 0: b.setCharAt(at, c); break;
        case 1: b.insert(at, c); break;
        default: b.setLength(at); b.append(c); break;
      }
    }
    return b.length() > 80 ? b.substring(0, 80) : b.toString();
  }

  /** Mostly from low to high, sometimes just or far outside. */
  private int about(int low, int high) {
    if (random.nextInt(25) == 0) {
      int[] odd = {low - 1, high + 1, low - 2, high + 7, Integer.MIN_VALUE, Integer.MAX_VALUE, -9};
      return odd[random.nextInt(odd.length)];
    }
    return low + random.nextInt(high - low + 1);
  }

  private int someRow() {
    return about(0, Math.max(0, model.count(1) - 1));
  }

  private int someSeat(int row) {
    int n = model.row(row, 1);
    return about(0, n < 1 ? 8 : n - 1);
  }

  private int someParty() {
    return about(1, Math.max(1, model.count(2)));
  }

  private long someStatements(int n) {
    if (random.nextInt(30) == 0) return random.nextLong() >> random.nextInt(64);
    long row = 0;
    for (int i = 0; i < n && i < 5; i++) {
      int k = random.nextInt(20) == 0 ? random.nextInt(10) : 1 + random.nextInt(7);
      int ab = random.nextInt(100);
      if (random.nextInt(10) != 0) {
        if (k == 1 || k == 7) ab = 10 * (1 + random.nextInt(6)) + 1 + random.nextInt(9);
        if (k == 2 || k == 6) ab = 1 + random.nextInt(Math.max(1, model.count(2)));
        if (k == 3) ab = 10 * random.nextInt(Math.max(1, model.count(1))) + 1 + random.nextInt(9);
        if (k == 4) ab = 10 * random.nextInt(Math.max(1, model.count(1))) + random.nextInt(9);
        if (k == 5) ab = model.count(5);
      }
      row = row * 1000 + 100 * k + ab;
    }
    return random.nextInt(40) == 0 ? row * 10 : row;
  }

  private String step(int call) {
    int row = someRow();
    boolean upper = random.nextBoolean();
    switch (call) {
      case 0: return compare(call, random.nextBoolean() ? about(0, 255) : '5', 0, 0, 0, upper);
      case 4: return compare(call, row, about(0, 4), 0, 0, upper);
      case 5: return compare(call, row, someSeat(row), about(0, 2), 0, upper);
      case 6: return compare(call, someParty(), about(0, 5), 0, 0, upper);
      case 7: return compare(call, about(1, random.nextBoolean() ? 3 : 6), about(1, 9), 0, 0, upper);
      case 8: case 9: case 10: return compare(call, someParty(), 0, 0, 0, upper);
      case 11: return compare(call, row, about(1, 9), 0, 0, upper);
      case 12: return compare(call, about(0, 9), 0, 0, 0, upper);
      case 14: return compare(call, about(1, 6), about(1, 9), about(0, 2), 0, upper);
      case 15: return compare(call, about(1, 6), 0, 0, 0, upper);
      case 16: return compare(call, about(0, 4), 0, 0, 0, upper);
      case 17: {
        int n = about(1, 4);
        return compare(call, n, 0, 0, someStatements(n), upper);
      }
      case 18: return compare(call, row, someSeat(row), about(0, 1), 0, upper);
      case 21: return compare(call, row, about(1, 6), 0, 0, upper);
      case 22: return compare(call, row, about(0, 9), about(0, 10), 0, upper);
      case 23: return compare(call, 0, 0, 0, random.nextLong(), upper);
      case 24: return compare(call, about(1, 20), 0, 0, 0, upper);
      case 25: case 26: return compare(call, about(0, 1), 0, 0, 0, upper);
      case 27: return compare(call, about(0, 10), 0, 0, 0, upper);
      default: return compare(call, 0, 0, 0, 0, upper);
    }
  }

  private String compare(int call, int a, int b, int c, long d, boolean upper) {
    long want = ofModel(call, a, b, c, d, upper);
    long got = ofSeats(call, a, b, c, d, upper);
    calls.add(NAMES[call] + "(" + a + "," + b + "," + c + "," + d + "," + upper + ")=" + want);
    SEEN.merge(NAMES[call] + (want < 0 && want > -10 ? want : "+"), 1, Integer::sum);
    if (got != want) return NAMES[call] + " answered " + got + ", due is " + want;
    for (int what = 0; what <= 10; what++) {
      if (seats.count(what) != model.count(what)) return "count(" + what + ") differs";
    }
    return null;
  }

  private long ofModel(int call, int a, int b, int c, long d, boolean upper) {
    switch (call) {
      case 0: return model.write(a);
      case 1: return model.wipe();
      case 2: return model.fault();
      case 3: return model.hall();
      case 4: return model.row(a, b);
      case 5: return model.seat(a, b, c);
      case 6: return model.party(a, b);
      case 7: return model.ask(a, b);
      case 8: return model.giveBack(a);
      case 9: return model.leave(a);
      case 10: return model.shift(a);
      case 11: return model.price(a, b);
      case 12: return model.fee(a);
      case 13: return model.undo();
      case 14: return model.best(a, b, c);
      case 15: return model.room(a);
      case 16: return model.waits(a);
      case 17: return model.judge(a, d);
      case 18: return model.see(a, b, c);
      case 19: return model.unsee();
      case 20: return model.which();
      case 21: return model.share(a, b, upper);
      case 22: return model.away(a, b, c, upper);
      case 23: return model.seed(d);
      case 24: return model.drawn(a);
      case 25: return model.keep(a);
      case 26: return model.again(a);
      default: return model.count(a);
    }
  }

  private long ofSeats(int call, int a, int b, int c, long d, boolean upper) {
    switch (call) {
      case 0: return seats.write(a);
      case 1: return seats.wipe();
      case 2: return seats.fault();
      case 3: return seats.hall();
      case 4: return seats.row(a, b);
      case 5: return seats.seat(a, b, c);
      case 6: return seats.party(a, b);
      case 7: return seats.ask(a, b);
      case 8: return seats.giveBack(a);
      case 9: return seats.leave(a);
      case 10: return seats.shift(a);
      case 11: return seats.price(a, b);
      case 12: return seats.fee(a);
      case 13: return seats.undo();
      case 14: return seats.best(a, b, c);
      case 15: return seats.room(a);
      case 16: return seats.waits(a);
      case 17: return seats.judge(a, d);
      case 18: return seats.see(a, b, c);
      case 19: return seats.unsee();
      case 20: return seats.which();
      case 21: return seats.share(a, b, upper);
      case 22: return seats.away(a, b, c, upper);
      case 23: return seats.seed(d);
      case 24: return seats.drawn(a);
      case 25: return seats.keep(a);
      case 26: return seats.again(a);
      default: return seats.count(a);
    }
  }
}
