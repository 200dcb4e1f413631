/** The boundary cases of the promises 20 to 26: observations, shares, chances and random sales. */
final class ChanceEdges extends Edges {
  private static final long FACTOR = 6364136223846793005L, ADDEND = 1442695040888963407L;
  private static final long LOW_BITS = (1L << 33) - 1;

  static void all() {
    see();
    unsee();
    which();
    whichGone();
    share();
    shareRefused();
    away();
    awayRefused();
    seed();
    drawnSeed();
    drawnReturns();
    drawnAsks();
    drawnFull();
    drawnMany();
  }

  private static void see() {
    test(20, "Records an observation: somebody sat on a seat, or nobody did.", () -> {
      LoneSeats x = hall("Hr15|5", "19 19");
      due("see(0, 0, 1)", x.see(0, 0, 1), 1);
      due("which()", x.which(), 4);
      LoneSeats y = hall("Hr15|5", "19 19");
      due("see(0, 0, 0)", y.see(0, 0, 0), 1);
      due("which()", y.which(), 2);
      due("the same one counts again", y.see(0, 0, 0), 2);
      due("which()", y.which(), 2);
    });
    test(20, "`was`: 1 if somebody sat there, 0 if not", () -> {
      LoneSeats x = hall("Hr15", "19");
      due("see(0, 0, 1)", x.see(0, 0, 1), 1);
      due("party 1 was there", x.which(), 0);
      x.unsee();
      due("see(0, 0, 0)", x.see(0, 0, 0), 1);
      due("party 1 was absent", x.which(), 2);
    });
    test(20, "Observations stay when another hall is made.", () -> {
      LoneSeats x = sixSeen();
      x.hall();
      due("another hall with the same text", x.count(10), 6);
      rewrite(x, "H");
      x.hall();
      due("a hall without rows", x.count(10), 6);
      due("unsee()", x.unsee(), 6);
    });
    test(20, "Returns the number of observations", () -> {
      LoneSeats x = hall("Hr15");
      for (int i = 1; i <= 6; i++) due("see(0, 0, 0)", x.see(0, 0, 0), i);
    });
    test(20, "UNKNOWN if there is no such seat", () -> {
      LoneSeats x = hall("Hr15r1555");
      int[][] none = {{0, 1}, {0, -1}, {1, 3}, {1, 9}, {2, 0}, {-1, 0}, {4, 0}, {0, MOST}, {0, LEAST}, {MOST, 0},
          {LEAST, 0}};
      for (int[] n : none) due("see(" + n[0] + ", " + n[1] + ", 1)", x.see(n[0], n[1], 1), UNKNOWN);
      due("the last seat", x.see(1, 2, 1), 1);
      due("the last seat of the longest hall", hall(SINGLES).see(3, 8, 1), 1);
      due("the seat behind it", hall(SINGLES).see(3, 9, 1), UNKNOWN);
      due("without rows", new LoneSeats().see(0, 0, 1), UNKNOWN);
    });
    test(20, "OUTSIDE if was is neither 0 nor 1", () -> {
      LoneSeats x = hall("Hr15");
      for (int was : new int[] {-1, 2, LEAST, MOST}) due("see(0, 0, " + was + ")", x.see(0, 0, was), OUTSIDE);
      due("observations", x.count(10), 0);
    });
    test(20, "FULL if there are 6 observations.", () -> {
      LoneSeats x = hall("Hr15");
      for (int i = 1; i <= 5; i++) x.see(0, 0, 1);
      due("with 5", x.see(0, 0, 1), 6);
      due("with 6", x.see(0, 0, 1), FULL);
      due("observations", x.count(10), 6);
      x.unsee();
      due("with 0 again", x.see(0, 0, 1), 1);
    });
  }

  private static void unsee() {
    test(21, "Removes all observations.", () -> {
      LoneSeats x = sixSeen();
      due("which() by six", x.which(), 4);
      x.unsee();
      due("count(10)", x.count(10), 0);
      due("which() by none", x.which(), 2 + 4);
      x.see(0, 0, 0);
      due("the old ones do not come back", x.which(), 2);
    });
    test(21, "Returns how many there were.", () -> {
      due("of a new object", new LoneSeats().unsee(), 0);
      LoneSeats x = sixSeen();
      due("six", x.unsee(), 6);
      due("and again", x.unsee(), 0);
      x.see(0, 0, 0);
      due("one", x.unsee(), 1);
    });
  }

  private static void which() {
    test(22, "Finds out which party can be absent: the seated parties for each of which, with the present state, all"
        + " observations are true if somebody sits on all taken seats but those of this party.", () -> {
      LoneSeats x = hall("Hr15|55|5|5", "29 19 19 69");
      // Party 1 has the seats 1 and 2, party 2 seat 0, party 3 seat 3; seat 4 is free, party 4 waits.
      due("nothing was seen", x.which(), 2 + 4 + 8);
      x.see(0, 4, 0);
      due("nobody on the free seat", x.which(), 2 + 4 + 8);
      x.see(0, 1, 1);
      due("somebody on seat 1", x.which(), 4 + 8);
      x.see(0, 0, 0);
      due("nobody on seat 0", x.which(), 4);
      x.see(0, 2, 1);
      x.see(0, 3, 1);
      due("the others were there", x.which(), 4);
      x.see(0, 0, 1);
      due("six, the last against another one", x.which(), 0);
      LoneSeats y = hall("Hr15|55|5|5", "29");
      y.see(0, 1, 0);
      y.see(0, 2, 1);
      due("a half of a party", y.which(), 0);
      LoneSeats z = hall("Hr15|5", "19");
      z.see(0, 1, 1);
      due("somebody on a free seat", z.which(), 0);
      z.ask(1, 9);
      due("with the present state it is taken", z.which(), 2);
      z.undo();
      due("and now it is not", z.which(), 0);
    });
    test(22, "Returns the set of these parties.", () -> {
      due("of no hall", new LoneSeats().which(), 0);
      due("of nobody", hall("Hr15").which(), 0);
      due("of one that waits", hall("Hr15", "29").which(), 0);
      LoneSeats x = hall("Hr15", "19");
      x.giveBack(1);
      due("of one that is gone", x.which(), 0);
      due("of party 30", thirty().which(), 1 << 30);
    });
    test(22, "with the present state", () -> unchanged("which()", Edges::busy, LoneSeats::which));
  }

  private static void whichGone() {
    test(22, "Observations of seats that do not exist any more are ignored.", () -> {
      for (int was = 0; was <= 1; was++) {
        LoneSeats x = hall("Hr155r155");
        x.see(1, 0, was);
        x.see(0, 1, was);
        rewrite(x, "Hr15");
        x.hall();
        x.ask(1, 9);
        due("a row and a seat are gone, was " + was, x.which(), 2);
        due("they are still counted", x.count(10), 2);
        rewrite(x, "Hr155r155");
        x.hall();
        parties(x, "29 29");
        due("they are there again, was " + was, x.which(), 0);
        x.giveBack(1);
        due("nobody on row 0, was " + was, x.which(), was == 0 ? 4 : 0);
      }
      LoneSeats y = hall("Hr155");
      y.see(0, 1, 1);
      y.see(0, 0, 0);
      rewrite(y, "Hr15");
      y.hall();
      y.ask(1, 9);
      due("the other one counts", y.which(), 2);
      rewrite(y, "H");
      y.hall();
      due("no seat exists", y.which(), 0);
    });
  }

  private static void fraction(String call, int upper, int lower, int wantUpper, int wantLower) {
    due(call + ", true", upper, wantUpper);
    due(call + ", false", lower, wantLower);
  }

  private static void shareDue(LoneSeats x, int row, int size, int upper, int lower) {
    fraction("share(" + row + ", " + size + ")", x.share(row, size, true), x.share(row, size, false), upper, lower);
  }

  private static void share() {
    test(23, "The rows are opened one after another, in each order equally likely; places are only in open rows, but"
        + " lone seats are counted in all rows.", () -> {
      LoneSeats one = hall("Hr9999999");
      shareDue(one, 0, 6, 54, 1);
      shareDue(one, 0, 5, 0, 1);
      LoneSeats four = hall("Hr18r14r92r11");
      shareDue(four, 3, 1, 1, 4);
      shareDue(four, 2, 1, 7, 12);
      shareDue(four, 1, 1, 19, 12);
      shareDue(four, 0, 1, 67, 12);
      LoneSeats three = hall("Hr11r14r18");
      shareDue(three, 0, 1, 1, 3);
      shareDue(three, 1, 1, 11, 6);
      shareDue(three, 2, 1, 35, 6);
      // For two, row 0 would leave a lone seat; the lone seat of row 1 makes no room for it.
      LoneSeats lone = hall("Hr1999r95r112");
      shareDue(lone, 0, 2, 0, 1);
      shareDue(lone, 1, 2, 0, 1);
      shareDue(lone, 2, 2, 3, 1);
    });
    test(23, "The share is the mean of how much the quality of the best place for this size and the limit 9 (0 if"
        + " there is no place) increases when this row is opened.", () -> {
      LoneSeats dear = hall("Hr97r13");
      shareDue(dear, 0, 1, 11, 2);
      shareDue(dear, 1, 1, 3, 2);
      LoneSeats none = hall("Hr15r155");
      shareDue(none, 0, 2, 0, 1);
      shareDue(none, 1, 2, 10, 1);
      shareDue(none, 0, 6, 0, 1);
      LoneSeats zero = hall("Hr10r10");
      shareDue(zero, 1, 1, 0, 1);
      LoneSeats equal = hall("Hr15r15r15");
      for (int r = 0; r < 3; r++) shareDue(equal, r, 1, 5, 3);
      LoneSeats taken = hall("Hr19r15", "19");
      shareDue(taken, 0, 1, 0, 1);
      shareDue(taken, 1, 1, 5, 1);
      LoneSeats last = hall("Hr10r10r10r9000999999");
      shareDue(last, 3, 6, 54, 1);
    });
  }

  private static void shareRefused() {
    test(23, "`size`: the size, 1 to 6", () -> {
      LoneSeats x = hall("Hr9123456r1111111");
      shareDue(x, 0, 1, 11, 2);
      shareDue(x, 1, 1, 1, 2);
      shareDue(x, 0, 6, 18, 1);
      shareDue(x, 1, 6, 3, 1);
    });
    test(23, "`upper`: true for the numerator, false for the denominator", () -> {
      LoneSeats x = hall("Hr11r12r13");
      due("true", x.share(2, 1, true), 11);
      due("false", x.share(2, 1, false), 6);
    });
    test(23, "UNKNOWN if there is no such row", () -> {
      LoneSeats x = hall("Hr15r15");
      for (int r : new int[] {-1, 2, 3, 4, LEAST, MOST}) {
        fraction("share(" + r + ", 1)", x.share(r, 1, true), x.share(r, 1, false), UNKNOWN, UNKNOWN);
      }
    });
    test(23, "OUTSIDE if size is out of range.", () -> {
      LoneSeats x = hall("Hr15");
      for (int size : new int[] {0, 7, -1, LEAST, MOST}) {
        fraction("share(0, " + size + ")", x.share(0, size, true), x.share(0, size, false), OUTSIDE, OUTSIDE);
      }
    });
    test(23, "Returns the share of a row in the best quality for a size (a Shapley value), a fraction.",
        () -> unchanged("share(1, 2, true)", Edges::busy, x -> x.share(1, 2, true)));
  }

  private static void awayDue(LoneSeats x, int row, int v, int tenths, int upper, int lower) {
    fraction("away(" + row + ", " + v + ", " + tenths + ")", x.away(row, v, tenths, true),
        x.away(row, v, tenths, false), upper, lower);
  }

  private static void away() {
    test(24, "Returns the probability that somebody sits on at least v seats of a row, if each party that has taken"
        + " seats in this row is absent with the probability x / 10, independently of the others.", () -> {
      LoneSeats x = hall("Hr155|555r19", "19 29 39 69");
      // Party 1 has row 1; the parties 2 and 3 have the two and the three seats of row 0; party 4 waits.
      awayDue(x, 0, 0, 3, 1, 1);
      awayDue(x, 0, 1, 3, 91, 100);
      awayDue(x, 0, 2, 3, 91, 100);
      awayDue(x, 0, 3, 3, 7, 10);
      awayDue(x, 0, 4, 3, 49, 100);
      awayDue(x, 0, 5, 3, 49, 100);
      awayDue(x, 0, 6, 3, 0, 1);
      awayDue(x, 0, 9, 3, 0, 1);
      awayDue(x, 1, 1, 3, 7, 10);
      awayDue(x, 1, 2, 3, 0, 1);
      x.giveBack(2);
      awayDue(x, 0, 1, 3, 7, 10);
      awayDue(x, 0, 3, 3, 7, 10);
      awayDue(x, 0, 4, 3, 0, 1);
      LoneSeats empty = hall("Hr15");
      awayDue(empty, 0, 0, 5, 1, 1);
      awayDue(empty, 0, 1, 5, 0, 1);
      LoneSeats corner = hall("Hr10r10r10r1000000009", "19");
      awayDue(corner, 3, 1, 1, 9, 10);
      awayDue(corner, 2, 1, 1, 0, 1);
    });
    test(24, "`v`: the number of seats, 0 to 9", () -> {
      LoneSeats x = hall("Hr15|5|5|5|5|5|5|5|5", "19 19 19 19 19 19 19 19 19");
      awayDue(x, 0, 0, 1, 1, 1);
      awayDue(x, 0, 1, 1, 999999999, 1000000000);
      awayDue(x, 0, 8, 1, 387420489, 500000000);
      awayDue(x, 0, 9, 1, 387420489, 1000000000);
      awayDue(x, 0, 9, 9, 1, 1000000000);
      awayDue(x, 0, 9, 5, 1, 512);
      awayDue(x, 0, 5, 5, 1, 2);
    });
    test(24, "`x`: the tenths, 0 to 10", () -> {
      LoneSeats x = hall("Hr15|55", "29 19");
      awayDue(x, 0, 3, 0, 1, 1);
      awayDue(x, 0, 4, 0, 0, 1);
      awayDue(x, 0, 1, 10, 0, 1);
      awayDue(x, 0, 0, 10, 1, 1);
      awayDue(x, 0, 3, 1, 81, 100);
      awayDue(x, 0, 3, 9, 1, 100);
    });
    test(24, "each party that has taken seats in this row",
        () -> unchanged("away(1, 2, 3, true)", Edges::busy, x -> x.away(1, 2, 3, true)));
  }

  private static void awayRefused() {
    test(24, "`upper`: true for the numerator, false for the denominator", () -> {
      LoneSeats x = hall("Hr15|5", "19 19");
      due("true", x.away(0, 2, 2, true), 16);
      due("false", x.away(0, 2, 2, false), 25);
    });
    test(24, "UNKNOWN if there is no such row", () -> {
      LoneSeats x = hall("Hr15r15");
      for (int r : new int[] {-1, 2, 3, 4, LEAST, MOST}) awayDue(x, r, 0, 0, UNKNOWN, UNKNOWN);
    });
    test(24, "OUTSIDE if v or x is out of range.", () -> {
      LoneSeats x = hall("Hr15");
      for (int v : new int[] {-1, 10, LEAST, MOST}) awayDue(x, 0, v, 5, OUTSIDE, OUTSIDE);
      for (int tenths : new int[] {-1, 11, LEAST, MOST}) awayDue(x, 0, 5, tenths, OUTSIDE, OUTSIDE);
    });
  }

  private static void seed() {
    test(25, "Sets the seed for drawn().", () -> {
      LoneSeats x = hall("Hr1555555555");
      x.seed(before(0));
      due("drawn(1), size 1", x.drawn(1), 1);
      x.seed(before(4 * 5));
      due("drawn(1), size 6", x.drawn(1), 6);
    });
    test(25, "`v`: the new seed", () -> {
      for (long v : new long[] {0, -1, Long.MAX_VALUE, Long.MIN_VALUE}) {
        LoneSeats x = new LoneSeats();
        x.seed(v);
        due("the seed", x.seed(0), v);
        due("no act", x.count(9), 0);
      }
    });
    test(25, "Returns the previous seed.", () -> {
      LoneSeats x = new LoneSeats();
      long[] seeds = {Long.MAX_VALUE, Long.MIN_VALUE, -1, 1, 1L << 32, 0};
      long previous = 0;
      for (long s : seeds) {
        due("seed(" + s + ")", x.seed(s), previous);
        previous = s;
      }
    });
  }

  /** The seed from which one step comes to this one: the factor's inverse turns the step back. */
  private static long stepBack(long seed) {
    long inverse = 1;
    for (int i = 0; i < 6; i++) inverse *= 2 - FACTOR * inverse;
    return (seed - ADDEND) * inverse;
  }

  /** The seed from which one event has this v. */
  private static long before(long v) {
    return stepBack(v << 33);
  }

  private static int drawnOne(LoneSeats x, long v) {
    x.seed(before(v));
    return x.drawn(1);
  }

  private static void drawnSeed() {
    test(26, "Simulates random events on a copy of the present state; only the seed changes.", () -> {
      for (long v : new long[] {0, 3, 7, 4 * 5 + 24 * 8, 4 * 2 + 24 * 8}) {
        unchanged("drawn(1) with v = " + v, Edges::busy, x -> {
          drawnOne(x, v);
          x.seed(7);
        });
      }
      unchanged("drawn(20)", Edges::busy, x -> {
        x.drawn(20);
        x.seed(7);
      });
      LoneSeats x = hall("Hr1555555555");
      due("from the present state", drawnOne(x, 4 * 5), 6);
      due("and from it again", drawnOne(x, 4 * 5), 6);
    });
    test(26, "For each event, the seed becomes seed * 6364136223846793005 + 1442695040888963407 (long arithmetic with"
        + " overflow), and v is (int) (seed >>> 33).", () -> {
      for (long first : new long[] {0, 1, -1, Long.MAX_VALUE, Long.MIN_VALUE}) {
        for (int m = 1; m <= 20; m++) {
          LoneSeats x = new LoneSeats();
          x.seed(first);
          x.drawn(m);
          long want = first;
          for (int i = 0; i < m; i++) want = want * FACTOR + ADDEND;
          due("the seed after drawn(" + m + ") from " + first, x.seed(0), want);
        }
      }
      LoneSeats x = hall("Hr9555555555");
      // v = 2^31 - 2: not 3 modulo 4, v / 4 = 2^29 - 1, which is 1 modulo 6, v / 24 = 89478485, 8 modulo 9.
      due("the greatest v that asks, size 2, limit 9", drawnOne(x, (1L << 31) - 2), 18);
      x.ask(3, 9);
      due("the greatest v, a return", drawnOne(x, (1L << 31) - 1), -27);
      // v / 4 = 2^28 + 1, which is 5 modulo 6, v / 24 = 44739242, 8 modulo 9.
      due("v = 2^30 + 4, size 6, limit 9", drawnOne(x, (1L << 30) + 4), 54);
      x.seed(stepBack(((4L * 1 + 24 * 8) << 33) | LOW_BITS));
      due("the low 33 bits of the seed are no part of v", x.drawn(1), 18);
      due("the seed", x.seed(0), ((4L * 1 + 24 * 8) << 33) | LOW_BITS);
    });
  }

  private static void drawnReturns() {
    test(26, "If v modulo 4 is 3, and n parties are seated, with n above 0, the one of them with the index (v / 4)"
        + " modulo n, in ascending order and from 0, gives its seats back as by giveBack().", () -> {
      due("nobody is there", drawnOne(hall("Hr15"), 3), 0);
      due("nobody is seated", drawnOne(hall("Hr15", "29"), 3), 0);
      // Seated are 1, 3, 4 and 5, who paid 1, 2, 3 and 4; party 2 waits.
      LoneSeats x = hall("Hr15r25r35r45", "11 29 12 13 14");
      for (int i = 0; i < 12; i++) due("the index " + i % 4, drawnOne(x, 3 + 4 * i), -(1 + i % 4));
      due("v modulo 4 is 2, nobody gives back", drawnOne(x, 2), 0);
      due("one is seated", drawnOne(hall("Hr15", "19"), 3 + 4 * 999), -1);
      due("party 30 is seated", drawnOne(thirty(), 3), -1);
      LoneSeats fee = hall("Hr5555", "39");
      fee.fee(2);
      due("the fee", drawnOne(fee, 3), -9);
      fee.fee(9);
      due("a fee above the pay", drawnOne(fee, 3), 0);
      LoneSeats in = hall("Hr15", "19 19");
      due("then others are let in", drawnOne(in, 3), 0);
      LoneSeats dearer = hall("Hr15", "11 19");
      dearer.price(0, 9);
      due("at the present price", drawnOne(dearer, 3), 8);
    });
  }

  private static void drawnAsks() {
    test(26, "If v modulo 4 is not 3, a party of size 1 + (v / 4) modulo 6 and limit 1 + (v / 24) modulo 9 asks as by"
        + " ask(), unless this would return FULL.", () -> {
      LoneSeats sizes = hall("Hr1555555555");
      for (int i = 0; i < 18; i++) {
        for (int rest = 0; rest < 3; rest++) due("size 1 + " + i % 6, drawnOne(sizes, 4 * i + rest), 1 + i % 6);
      }
      for (int price = 1; price <= 9; price++) {
        LoneSeats x = hall("Hr" + price + "5");
        for (int i = 0; i < 20; i++) {
          int limit = 1 + i % 9;
          due("limit " + limit + ", price " + price, drawnOne(x, 24 * i), limit >= price ? price : 0);
          due("limit " + limit + ", v modulo 4 is 2", drawnOne(x, 24 * i + 2), limit >= price ? price : 0);
        }
      }
      LoneSeats edge = hall("Hr2555555");
      due("v = 22, the last one with limit 1, size 6", drawnOne(edge, 22), 0);
      due("v = 24, the first one with limit 2, size 1", drawnOne(edge, 24), 2);
      due("v = 24 + 20, limit 2, size 6", drawnOne(edge, 44), 12);
      due("v = 24 * 9 - 2, the last one with limit 9, size 6", drawnOne(edge, 24 * 9 - 2), 12);
      due("v = 24 * 9 + 20, limit 1 again", drawnOne(edge, 24 * 9 + 20), 0);
      LoneSeats three = hall("Hr3555555");
      due("v = 46, the last one with limit 2", drawnOne(three, 46), 0);
      due("v = 48, the first one with limit 3, size 1", drawnOne(three, 48), 3);
      due("it would leave a lone seat and waits", drawnOne(hall("Hr1555"), 4), 0);
      due("in the last row", drawnOne(hall("Hr9000000r9000000r9000000r1555555"), 4 * 5), 6);
    });
  }

  private static void drawnFull() {
    test(26, "All divisions round down.", () -> {
      LoneSeats x = hall("Hr1555555555");
      for (int v = 0; v < 3; v++) due("v = " + v + ", size 1", drawnOne(x, v), 1);
      for (int v = 4; v < 7; v++) due("v = " + v + ", size 2", drawnOne(x, v), 2);
      LoneSeats y = hall("Hr2555555555");
      due("v = 22, limit 1", drawnOne(y, 22), 0);
      due("v = 46, limit 2, size 6", drawnOne(y, 46), 12);
      // Party 1 paid 1 and party 2 paid 9.
      LoneSeats z = hall("Hr15r95", "19 19");
      due("v = 3, the index 0", drawnOne(z, 3), -1);
      due("v = 7, the index 1", drawnOne(z, 7), -9);
      due("v = 11, the index 0", drawnOne(z, 11), -1);
    });
    test(26, "unless this would return FULL.", () -> {
      LoneSeats thirty = thirty();
      thirty.giveBack(30);
      due("a place, but 30 parties", drawnOne(thirty, 24 * 8), 0);
      thirty.undo();
      thirty.undo();
      due("the 30th", drawnOne(thirty, 24 * 8), 1);
      LoneSeats five = fiveWaiting();
      due("no place, and five wait", drawnOne(five, 4 * 2), 0);
      due("a place, and five wait", drawnOne(five, 4 * 1), 2);
      // There is a place for the second event too, but the first one was the 30th.
      LoneSeats last = hall("Hr15|5|5");
      for (int p = 1; p <= 29; p++) {
        last.giveBack(p - 1);
        last.ask(1, 9);
      }
      last.seed(beforeBoth(true));
      due("the 30th and the 31st", last.drawn(2), 1);
      LoneSeats both = hall("Hr15|5");
      both.seed(beforeBoth(true));
      due("the first and the second", both.drawn(2), 2);
    });
  }

  /** A seed from which the first event asks for one seat, and the second does so too or is a return. */
  private static long beforeBoth(boolean secondAsks) {
    for (long low = 0; low < 1000000; low++) {
      long first = (24L * 8 << 33) | low << 13;
      int second = (int) ((first * FACTOR + ADDEND) >>> 33);
      boolean asksOne = second % 4 != 3 && second / 4 % 6 == 0;
      if (secondAsks ? asksOne : second % 4 == 3) return stepBack(first);
    }
    throw new IllegalStateException("no such seed");
  }

  /** By how much the takings grow if the events are carried out by ask() and giveBack(). */
  private static int byActs(LoneSeats x, long firstSeed, int m) {
    int before = x.count(8);
    long seed = firstSeed;
    for (int i = 0; i < m; i++) {
      seed = seed * FACTOR + ADDEND;
      int v = (int) (seed >>> 33);
      if (v % 4 != 3) x.ask(1 + v / 4 % 6, 1 + v / 24 % 9);
      else if (x.count(4) > 0) x.giveBack(seatedAt(x, v / 4 % x.count(4)));
    }
    return x.count(8) - before;
  }

  /** 0 if there is no such party, so that a fault of the class is told and does not hang the test. */
  private static int seatedAt(LoneSeats x, int index) {
    int before = 0;
    for (int p = 1; p <= 30; p++) {
      if (x.party(p, 2) != 1) continue;
      if (before == index) return p;
      before++;
    }
    return 0;
  }

  private static void drawnMany() {
    test(26, "Returns by how much the takings of the copy are greater in the end than the present ones (may be"
        + " negative)", () -> {
      LoneSeats x = hall("Hr4555", "39");
      due("negative", drawnOne(x, 3), -12);
      due("0", drawnOne(x, 24 * 8), 0);
      LoneSeats y = hall("Hr45|5", "19");
      due("positive, less what was there", drawnOne(y, 24 * 8), 4);
      LoneSeats z = hall("Hr15");
      z.seed(beforeBoth(false));
      due("a sale and its return in one call", z.drawn(2), 0);
      z.fee(1);
      z.seed(beforeBoth(false));
      due("with the fee", z.drawn(2), 1);
    });
    test(26, "`m`: the number of events, 1 to 20", () -> {
      for (int m = 1; m <= 20; m++) {
        for (long seed : new long[] {0, -1, Long.MAX_VALUE, 1L << 40, 987654321}) {
          LoneSeats x = hall("Hr1555555555r55|55|555r9999", "19 39 29");
          x.fee(1);
          x.seed(seed);
          LoneSeats y = hall("Hr1555555555r55|55|555r9999", "19 39 29");
          y.fee(1);
          due("drawn(" + m + ") with the seed " + seed, x.drawn(m), byActs(y, seed, m));
        }
      }
    });
    test(26, "OUTSIDE if m is out of range.", () -> {
      LoneSeats x = hall("Hr15", "19");
      x.seed(before(3));
      for (int m : new int[] {0, 21, -1, LEAST, MOST}) due("drawn(" + m + ")", x.drawn(m), OUTSIDE);
      due("the seed stays", x.seed(0), before(3));
    });
  }
}
