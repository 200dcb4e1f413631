import java.util.ArrayList;
import java.util.List;
import java.util.function.Consumer;
import java.util.function.Function;
import java.util.function.Supplier;
import java.util.function.ToLongFunction;

/**
 * What the tests of boundary cases share. Each test names a promise and quotes the sentence of the
 * document that it holds to, from the promise's own section or from the description.
 */
abstract class Edges {
  static final int UNKNOWN = -1, OUTSIDE = -2, STATE = -3, FULL = -4, NONE = -9;
  static final int LEAST = Integer.MIN_VALUE, MOST = Integer.MAX_VALUE;
  /** Four rows of nine seats, each seat a block of its own: the longest hall, 77 characters. */
  static final String SINGLES = "H" + "r15|5|5|5|5|5|5|5|5".repeat(4);

  record Quote(int promise, String sentence) { }

  static final List<Quote> QUOTES = new ArrayList<>();
  static int wrong = 0;
  private static Quote present;

  /** A test of its own for one sentence. */
  static void test(int promise, String sentence, Runnable body) {
    present = new Quote(promise, sentence);
    QUOTES.add(present);
    try {
      body.run();
    } catch (RuntimeException thrown) {
      tell("a call has thrown " + thrown);
    }
  }

  static void due(String call, long got, long want) {
    if (got != want) tell(call + " answered " + got + ", due is " + want);
  }

  static void same(String what, String got, String want) {
    if (!got.equals(want)) tell(what + " is " + got + ", due is " + want);
  }

  private static void tell(String what) {
    wrong++;
    System.out.println("promise " + present.promise + ", \"" + present.sentence + "\": " + what);
  }

  // ---- making objects

  static LoneSeats written(String text) {
    LoneSeats x = new LoneSeats();
    rewrite(x, text);
    return x;
  }

  static void rewrite(LoneSeats x, String text) {
    x.wipe();
    for (char c : text.toCharArray()) x.write(c);
  }

  /** An object with the hall of this text. */
  static LoneSeats hall(String text) {
    LoneSeats x = written(text);
    due("fault() of " + text, x.fault(), NONE);
    x.hall();
    return x;
  }

  /** The same, and these parties have asked, each given by the digits of its size and limit. */
  static LoneSeats hall(String text, String parties) {
    LoneSeats x = hall(text);
    parties(x, parties);
    return x;
  }

  static void parties(LoneSeats x, String parties) {
    for (String one : parties.split(" ")) x.ask(one.charAt(0) - '0', one.charAt(1) - '0');
  }

  /**
   * A hall in use. Party 1 has the seats 4 and 5 of row 1, party 4 the one seat of row 2, party 2 is
   * gone, the parties 3 and 5 wait; there were 8 acts, slot 0 has something and slot 1 nothing, two
   * observations, the seed is 7, and the text, Hr, has a fault.
   */
  static LoneSeats busy() {
    LoneSeats x = hall("Hr2555|55r4123456r79", "29 39 69 19 11");
    x.seed(7);
    x.fee(1);
    x.keep(0);
    x.price(1, 5);
    x.giveBack(2);
    x.see(0, 3, 0);
    x.see(1, 4, 1);
    rewrite(x, "Hr");
    return x;
  }

  /** One seat, 30 parties; all but the last are gone, and that one is seated. */
  static LoneSeats thirty() {
    LoneSeats x = hall("Hr15");
    for (int p = 1; p <= 30; p++) {
      x.giveBack(p - 1);
      x.ask(1, 9);
    }
    return x;
  }

  /** Two free seats, and five parties of three wait. */
  static LoneSeats fiveWaiting() {
    return hall("Hr155", "39 39 39 39 39");
  }

  /** Three times somebody sat on seat 0, which party 1 has, and nobody on seat 1, which party 2 has. */
  static LoneSeats sixSeen() {
    LoneSeats x = hall("Hr15|5", "19 19");
    for (int i = 0; i < 6; i++) x.see(0, i % 2, 1 - i % 2);
    return x;
  }

  // ---- comparing whole objects, with fewer than 512 calls on each of them

  /** The call answers with this error, and afterwards all is as if it had not come. */
  static void refused(String name, Supplier<LoneSeats> setting, ToLongFunction<LoneSeats> call, int error) {
    due(name, call.applyAsLong(setting.get()), error);
    unchanged(name, setting, x -> call.applyAsLong(x));
  }

  static void unchanged(String name, Supplier<LoneSeats> setting, Consumer<LoneSeats> call) {
    List<Function<LoneSeats, String>> probes =
        List.of(Edges::looks, Edges::people, Edges::past, Edges::kept, Edges::rest, Edges::nextHall);
    for (Function<LoneSeats, String> probe : probes) {
      LoneSeats x = setting.get();
      call.accept(x);
      same("after " + name + " what is there", probe.apply(x), probe.apply(setting.get()));
    }
  }

  static String counts(LoneSeats x) {
    StringBuilder b = new StringBuilder("counts");
    for (int what = 0; what <= 10; what++) b.append(' ').append(x.count(what));
    return b.toString();
  }

  static String looks(LoneSeats x) {
    StringBuilder b = new StringBuilder(counts(x));
    for (int r = 0; r < 4; r++) {
      b.append(" / row");
      for (int what = 0; what < 5; what++) b.append(' ').append(x.row(r, what));
      for (int s = 0; s < 9; s++) {
        b.append(',');
        for (int what = 0; what < 3; what++) b.append(' ').append(x.seat(r, s, what));
      }
    }
    return b.toString();
  }

  static String people(LoneSeats x) {
    StringBuilder b = new StringBuilder("queue");
    for (int i = 0; i < 6; i++) b.append(' ').append(x.waits(i));
    for (int p = 1; p <= 31; p++) {
      b.append(" / ").append(p);
      for (int what = 0; what < 6; what++) b.append(' ').append(x.party(p, what));
    }
    return b.toString();
  }

  private static String past(LoneSeats x) {
    StringBuilder b = new StringBuilder("past");
    for (int i = 0; i < 15; i++) {
      b.append(" / ").append(x.undo()).append(' ').append(counts(x));
      for (int r = 0; r < 4; r++) b.append(' ').append(x.row(r, 0)).append(' ').append(x.row(r, 3));
      b.append(" queue ").append(x.waits(0)).append(' ').append(x.waits(1));
    }
    return b.toString();
  }

  private static String kept(LoneSeats x) {
    StringBuilder b = new StringBuilder("kept");
    for (int slot = 0; slot < 2; slot++) {
      b.append(" / ").append(x.again(slot)).append(' ').append(looks(x)).append(x.waits(0));
    }
    return b.toString();
  }

  private static String rest(LoneSeats x) {
    return "which " + x.which() + " seed " + x.seed(0) + " fault " + x.fault() + " unsee " + x.unsee();
  }

  /** What hall() makes of the text when a price and a view are put behind it. */
  private static String nextHall(LoneSeats x) {
    return x.write('1') + " " + x.write('5') + " " + x.fault() + " " + x.hall() + " " + looks(x);
  }
}
