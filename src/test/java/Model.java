import java.math.BigInteger;
import java.util.ArrayDeque;
import java.util.ArrayList;
import java.util.Deque;
import java.util.List;
import java.util.regex.Matcher;
import java.util.regex.Pattern;

/**
 * The document told a second time, as literally as can be and with other means than LoneSeats:
 * seats and parties are objects, states are copied whole, chances and shares are found by going
 * through all cases.
 */
final class Model {
  static final int UNKNOWN = -1, OUTSIDE = -2, STATE = -3, FULL = -4, NONE = -9;
  private static final Pattern HALL = Pattern.compile("H(r[1-9][0-9](\\|?[0-9]){0,8}){0,4}");

  private static final class Row {
    List<Integer> views = new ArrayList<>();
    List<Boolean> aisleBefore = new ArrayList<>();
    int firstPrice;
  }

  private static final class Party {
    int number, size, limit, row = NONE, first = NONE, paid;
    int standing;

    Party copy() {
      Party p = new Party();
      p.number = number;
      p.size = size;
      p.limit = limit;
      p.row = row;
      p.first = first;
      p.paid = paid;
      p.standing = standing;
      return p;
    }
  }

  private record Place(int row, int first, int quality, int price) { }

  private record Sight(int row, int seat, int was) { }

  private static final class State {
    List<Integer> prices = new ArrayList<>();
    int[][] taken = new int[4][9];
    List<Party> parties = new ArrayList<>();
    List<Integer> queue = new ArrayList<>();
    int fee, takings;

    State copy() {
      State s = new State();
      s.prices.addAll(prices);
      for (int r = 0; r < 4; r++) s.taken[r] = taken[r].clone();
      for (Party p : parties) s.parties.add(p.copy());
      s.queue.addAll(queue);
      s.fee = fee;
      s.takings = takings;
      return s;
    }

    Party party(int number) {
      return number < 1 || number > parties.size() ? null : parties.get(number - 1);
    }
  }

  private final StringBuilder text = new StringBuilder();
  private List<Row> rows = new ArrayList<>();
  private State now = new State();
  private final Deque<State> past = new ArrayDeque<>();
  private final State[] slots = new State[2];
  private final List<Sight> sights = new ArrayList<>();
  private long seed;

  int write(int letter) {
    if (letter < 0 || letter > 255) return OUTSIDE;
    if (text.length() == 80) return FULL;
    text.append((char) letter);
    return text.length();
  }

  int wipe() {
    int n = text.length();
    text.setLength(0);
    return n;
  }

  int fault() {
    for (int n = 1; n <= text.length(); n++) {
      Matcher m = HALL.matcher(text.substring(0, n));
      if (!m.matches() && !m.hitEnd()) return n - 1;
    }
    return HALL.matcher(text).matches() ? NONE : text.length();
  }

  int hall() {
    if (fault() != NONE) return STATE;
    rows = new ArrayList<>();
    now = new State();
    String[] parts = text.substring(1).split("r");
    for (String part : parts) {
      if (part.isEmpty()) continue;
      Row row = new Row();
      row.firstPrice = part.charAt(0) - '0';
      now.prices.add(row.firstPrice);
      for (int i = 1; i < part.length(); i++) {
        if (part.charAt(i) == '|') continue;
        row.views.add(part.charAt(i) - '0');
        row.aisleBefore.add(part.charAt(i - 1) == '|');
      }
      rows.add(row);
    }
    past.clear();
    slots[0] = null;
    slots[1] = null;
    return rows.size();
  }

  private boolean hasSeat(int row, int seat) {
    return row >= 0 && row < rows.size() && seat >= 0 && seat < rows.get(row).views.size();
  }

  private boolean sameBlock(int row, int seat) {
    return hasSeat(row, seat) && hasSeat(row, seat + 1) && !rows.get(row).aisleBefore.get(seat + 1);
  }

  private boolean lone(int[][] taken, int row, int seat) {
    if (taken[row][seat] != 0) return false;
    if (sameBlock(row, seat) && taken[row][seat + 1] == 0) return false;
    return !(sameBlock(row, seat - 1) && taken[row][seat - 1] == 0);
  }

  private int lones(int[][] taken) {
    int n = 0;
    for (int r = 0; r < rows.size(); r++) {
      for (int s = 0; s < rows.get(r).views.size(); s++) if (lone(taken, r, s)) n++;
    }
    return n;
  }

  private static int[][] copyOf(int[][] taken) {
    int[][] c = new int[4][];
    for (int r = 0; r < 4; r++) c[r] = taken[r].clone();
    return c;
  }

  private int quality(int row, int first, int size) {
    int q = 0;
    for (int s = first; s < first + size; s++) q += rows.get(row).views.get(s);
    return q;
  }

  private List<Place> places(State state, int[][] taken, int size, int limit, int most) {
    List<Place> found = new ArrayList<>();
    for (int r = 0; r < rows.size(); r++) {
      if (state.prices.get(r) > limit) continue;
      for (int first = 0; first < 9; first++) {
        boolean fits = true;
        int[][] then = copyOf(taken);
        for (int s = first; s < first + size; s++) {
          fits = fits && hasSeat(r, s) && taken[r][s] == 0;
          if (s > first) fits = fits && sameBlock(r, s - 1);
          if (fits) then[r][s] = 99;
        }
        if (fits && lones(then) <= most) {
          found.add(new Place(r, first, quality(r, first, size), state.prices.get(r)));
        }
      }
    }
    return found;
  }

  private static Place bestOf(List<Place> places) {
    Place best = null;
    for (Place p : places) {
      if (best == null || p.quality > best.quality
          || p.quality == best.quality && (p.price < best.price
          || p.price == best.price && (p.row < best.row
          || p.row == best.row && p.first < best.first))) {
        best = p;
      }
    }
    return best;
  }

  private Place bestFor(State state, int size, int limit) {
    return bestOf(places(state, state.taken, size, limit, lones(state.taken)));
  }

  int row(int row, int what) {
    if (row < 0 || row >= rows.size()) return UNKNOWN;
    if (what < 0 || what > 4) return OUTSIDE;
    Row r = rows.get(row);
    if (what == 0) return now.prices.get(row);
    if (what == 1) return r.views.size();
    if (what == 2) {
      int blocks = 1;
      for (boolean aisle : r.aisleBefore) if (aisle) blocks++;
      return blocks;
    }
    int set = 0;
    for (int s = 0; s < r.views.size(); s++) {
      boolean in = what == 3 ? now.taken[row][s] == 0 : lone(now.taken, row, s);
      if (in) set += (int) Math.pow(2, s);
    }
    return set;
  }

  int seat(int row, int seat, int what) {
    if (!hasSeat(row, seat)) return UNKNOWN;
    if (what < 0 || what > 2) return OUTSIDE;
    if (what == 0) return rows.get(row).views.get(seat);
    if (what == 1) return hasSeat(row, seat + 1) && rows.get(row).aisleBefore.get(seat + 1) ? 1 : 0;
    return now.taken[row][seat];
  }

  int party(int party, int what) {
    Party p = now.party(party);
    if (p == null) return UNKNOWN;
    if (what < 0 || what > 5) return OUTSIDE;
    return new int[] {p.size, p.limit, p.standing, p.row, p.first, p.paid}[what];
  }

  private void settle(State state, Party p, Place place) {
    p.standing = 1;
    p.row = place.row;
    p.first = place.first;
    p.paid = p.size * state.prices.get(place.row);
    state.takings += p.paid;
    for (int s = p.first; s < p.first + p.size; s++) state.taken[p.row][s] = p.number;
  }

  private void letIn(State state) {
    for (int number : new ArrayList<>(state.queue)) {
      Party p = state.party(number);
      Place place = bestFor(state, p.size, p.limit);
      if (place != null) {
        state.queue.remove(Integer.valueOf(number));
        settle(state, p, place);
      }
    }
  }

  private int asks(State state, int size, int limit) {
    Place place = bestFor(state, size, limit);
    if (state.parties.size() == 30 || place == null && state.queue.size() == 5) return FULL;
    Party p = new Party();
    p.number = state.parties.size() + 1;
    p.size = size;
    p.limit = limit;
    state.parties.add(p);
    if (place != null) {
      settle(state, p, place);
    } else {
      p.standing = 2;
      state.queue.add(p.number);
    }
    return p.number;
  }

  private int returns(State state, Party p) {
    int back = p.paid - p.size * state.fee;
    if (back < 0) back = 0;
    state.takings -= back;
    for (int s = p.first; s < p.first + p.size; s++) state.taken[p.row][s] = 0;
    p.standing = 0;
    p.row = NONE;
    p.first = NONE;
    p.paid = 0;
    letIn(state);
    return back;
  }

  private void remember(State before) {
    past.addLast(before);
    if (past.size() > 14) past.removeFirst();
  }

  int ask(int size, int limit) {
    if (size < 1 || size > 6 || limit < 1 || limit > 9) return OUTSIDE;
    State before = now.copy();
    int answer = asks(now, size, limit);
    if (answer != FULL) remember(before);
    return answer;
  }

  int giveBack(int party) {
    Party p = now.party(party);
    if (p == null) return UNKNOWN;
    if (p.standing != 1) return STATE;
    remember(now.copy());
    return returns(now, p);
  }

  int leave(int party) {
    Party p = now.party(party);
    if (p == null) return UNKNOWN;
    if (p.standing != 2) return STATE;
    remember(now.copy());
    p.standing = 0;
    now.queue.remove(Integer.valueOf(party));
    return now.queue.size();
  }

  int shift(int party) {
    Party p = now.party(party);
    if (p == null) return UNKNOWN;
    if (p.standing != 1) return STATE;
    int[][] without = copyOf(now.taken);
    for (int s = p.first; s < p.first + p.size; s++) without[p.row][s] = 0;
    Place place = bestOf(places(now, without, p.size, p.limit, lones(now.taken)));
    if (place == null) return STATE;
    int gain = place.quality - quality(p.row, p.first, p.size);
    if (gain <= 0) return STATE;
    remember(now.copy());
    now.taken = without;
    p.row = place.row;
    p.first = place.first;
    for (int s = p.first; s < p.first + p.size; s++) now.taken[p.row][s] = p.number;
    letIn(now);
    return gain;
  }

  int price(int row, int v) {
    if (row < 0 || row >= rows.size()) return UNKNOWN;
    if (v < 1 || v > 9) return OUTSIDE;
    remember(now.copy());
    int previous = now.prices.set(row, v);
    letIn(now);
    return previous;
  }

  int fee(int v) {
    if (v < 0 || v > 9) return OUTSIDE;
    remember(now.copy());
    int previous = now.fee;
    now.fee = v;
    return previous;
  }

  int undo() {
    if (past.isEmpty()) return STATE;
    now = past.removeLast();
    return past.size();
  }

  int best(int size, int limit, int what) {
    if (size < 1 || size > 6 || limit < 1 || limit > 9 || what < 0 || what > 2) return OUTSIDE;
    List<Place> all = places(now, now.taken, size, limit, lones(now.taken));
    if (what == 2) return all.size();
    Place best = bestOf(all);
    if (best == null) return NONE;
    return what == 0 ? 10 * best.row + best.first : best.quality;
  }

  int room(int size) {
    if (size < 1 || size > 6) return OUTSIDE;
    State state = now.copy();
    int n = 0;
    while (true) {
      Place place = bestFor(state, size, 9);
      if (place == null) return n;
      for (int s = place.first; s < place.first + size; s++) state.taken[place.row][s] = 77;
      n++;
    }
  }

  int waits(int place) {
    return place < 0 || place >= now.queue.size() ? NONE : now.queue.get(place);
  }

  int judge(int n, long row) {
    if (n < 1 || n > 4 || row < 0 || Long.toString(row).length() > 3 * n) return OUTSIDE;
    String digits = Long.toString(row);
    while (digits.length() < 3 * n) digits = "0" + digits;
    State state = now.copy();
    for (int i = 0; i < n; i++) {
      if (!holds(state, digits.substring(3 * i, 3 * i + 3))) return i;
    }
    return NONE;
  }

  private boolean holds(State state, String statement) {
    int a = statement.charAt(1) - '0', b = statement.charAt(2) - '0';
    int ab = Integer.parseInt(statement.substring(1));
    Party p = state.party(ab);
    switch (statement.charAt(0)) {
      case '1':
        if (a < 1 || a > 6 || b < 1) return false;
        int number = asks(state, a, b);
        return number != FULL && state.party(number).standing == 1;
      case '2':
        if (p == null || p.standing != 1) return false;
        returns(state, p);
        return true;
      case '3':
        if (a >= rows.size() || b < 1) return false;
        state.prices.set(a, b);
        letIn(state);
        return true;
      case '4':
        return hasSeat(a, b) && lone(state.taken, a, b);
      case '5':
        return free(state) == ab;
      case '6':
        return p != null && p.standing == 1;
      case '7':
        return a >= 1 && a <= 6 && b >= 1 && bestFor(state, a, b) != null;
      default:
        return false;
    }
  }

  private int free(State state) {
    int n = 0;
    for (int r = 0; r < rows.size(); r++) {
      for (int s = 0; s < rows.get(r).views.size(); s++) if (state.taken[r][s] == 0) n++;
    }
    return n;
  }

  int see(int row, int seat, int was) {
    if (!hasSeat(row, seat)) return UNKNOWN;
    if (was != 0 && was != 1) return OUTSIDE;
    if (sights.size() == 6) return FULL;
    sights.add(new Sight(row, seat, was));
    return sights.size();
  }

  int unsee() {
    int n = sights.size();
    sights.clear();
    return n;
  }

  int which() {
    int set = 0;
    for (Party p : now.parties) {
      if (p.standing != 1) continue;
      int[][] sitting = copyOf(now.taken);
      for (int s = p.first; s < p.first + p.size; s++) sitting[p.row][s] = 0;
      boolean all = true;
      for (Sight sight : sights) {
        if (!hasSeat(sight.row, sight.seat)) continue;
        if ((sitting[sight.row][sight.seat] != 0) != (sight.was == 1)) all = false;
      }
      if (all) set |= 1 << p.number;
    }
    return set;
  }

  private static int part(BigInteger numerator, BigInteger denominator, boolean upper) {
    BigInteger g = numerator.gcd(denominator);
    return (upper ? numerator : denominator).divide(g).intValueExact();
  }

  int share(int row, int size, boolean upper) {
    if (row < 0 || row >= rows.size()) return UNKNOWN;
    if (size < 1 || size > 6) return OUTSIDE;
    List<List<Integer>> orders = new ArrayList<>();
    permute(new ArrayList<>(), orders);
    long sum = 0;
    List<Place> all = places(now, now.taken, size, 9, lones(now.taken));
    for (List<Integer> order : orders) {
      int at = order.indexOf(row);
      sum += worth(all, order.subList(0, at + 1)) - worth(all, order.subList(0, at));
    }
    return part(BigInteger.valueOf(sum), BigInteger.valueOf(orders.size()), upper);
  }

  private void permute(List<Integer> begun, List<List<Integer>> orders) {
    if (begun.size() == rows.size()) orders.add(new ArrayList<>(begun));
    for (int r = 0; r < rows.size(); r++) {
      if (begun.contains(r)) continue;
      begun.add(r);
      permute(begun, orders);
      begun.remove(begun.size() - 1);
    }
  }

  private static int worth(List<Place> all, List<Integer> open) {
    int most = 0;
    for (Place p : all) if (open.contains(p.row)) most = Math.max(most, p.quality);
    return most;
  }

  int away(int row, int v, int x, boolean upper) {
    if (row < 0 || row >= rows.size()) return UNKNOWN;
    if (v < 0 || v > 9 || x < 0 || x > 10) return OUTSIDE;
    List<Party> here = new ArrayList<>();
    for (Party p : now.parties) if (p.standing == 1 && p.row == row) here.add(p);
    BigInteger sum = BigInteger.ZERO;
    for (int absent = 0; absent < 1 << here.size(); absent++) {
      BigInteger weight = BigInteger.ONE;
      int seats = 0;
      for (int i = 0; i < here.size(); i++) {
        boolean isAbsent = (absent >> i & 1) == 1;
        weight = weight.multiply(BigInteger.valueOf(isAbsent ? x : 10 - x));
        if (!isAbsent) seats += here.get(i).size;
      }
      if (seats >= v) sum = sum.add(weight);
    }
    return part(sum, BigInteger.TEN.pow(here.size()), upper);
  }

  long seed(long v) {
    long previous = seed;
    seed = v;
    return previous;
  }

  int drawn(int m) {
    if (m < 1 || m > 20) return OUTSIDE;
    State state = now.copy();
    for (int i = 0; i < m; i++) {
      seed = seed * 6364136223846793005L + 1442695040888963407L;
      int v = (int) (seed >>> 33);
      if (v % 4 == 3) {
        List<Party> seated = new ArrayList<>();
        for (Party p : state.parties) if (p.standing == 1) seated.add(p);
        if (!seated.isEmpty()) returns(state, seated.get((v / 4) % seated.size()));
      } else {
        asks(state, 1 + (v / 4) % 6, 1 + (v / 24) % 9);
      }
    }
    return state.takings - now.takings;
  }

  int keep(int slot) {
    if (slot != 0 && slot != 1) return UNKNOWN;
    slots[slot] = now.copy();
    return now.parties.size();
  }

  int again(int slot) {
    if (slot != 0 && slot != 1) return UNKNOWN;
    if (slots[slot] == null) return STATE;
    now = slots[slot].copy();
    past.clear();
    return now.parties.size();
  }

  int count(int what) {
    int seated = 0;
    for (Party p : now.parties) if (p.standing == 1) seated++;
    switch (what) {
      case 0: return text.length();
      case 1: return rows.size();
      case 2: return now.parties.size();
      case 3: return now.queue.size();
      case 4: return seated;
      case 5: return free(now);
      case 6: return lones(now.taken);
      case 7: return now.fee;
      case 8: return now.takings;
      case 9: return past.size();
      case 10: return sights.size();
      default: return OUTSIDE;
    }
  }
}
