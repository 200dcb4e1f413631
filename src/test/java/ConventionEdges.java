/** The boundary cases of the document's conventions, which hold for many promises. */
final class ConventionEdges extends Edges {
  private static final String NUMBERED = "Rows, seats and all positions are numbered from 0, parties from 1.";
  private static final String BITS = "Sets are bits: bit k stands for number k.";
  private static final String FIRST = "If several errors apply, the one that the description of the result"
      + " names first is returned.";
  private static final String NONE_LAST = "NONE is returned only if no error applies.";
  private static final String NOTHING = "A call that returns an error code changes nothing.";
  private static final String PARTS = "Methods that return a fraction return its numerator if upper is true"
      + " and its denominator if it is false";
  private static final String LOWEST = "fractions are in lowest terms with a positive denominator (0 is 0 / 1).";

  static void all() {
    numbers();
    sets();
    codes();
    firstError();
    noneLast();
    nothingInTheHall();
    nothingByActs();
    nothingByQuestions();
    fractions();
    lastCall();
  }

  private static void numbers() {
    test(6, NUMBERED, () -> {
      LoneSeats x = hall("Hr15r25r35r45");
      due("row(-1, 0)", x.row(-1, 0), UNKNOWN);
      due("row(0, 0)", x.row(0, 0), 1);
      due("row(3, 0)", x.row(3, 0), 4);
      due("row(4, 0)", x.row(4, 0), UNKNOWN);
    });
    test(7, NUMBERED, () -> {
      LoneSeats x = hall("Hr1123456789");
      due("seat(0, -1, 0)", x.seat(0, -1, 0), UNKNOWN);
      due("seat(0, 0, 0)", x.seat(0, 0, 0), 1);
      due("seat(0, 8, 0)", x.seat(0, 8, 0), 9);
      due("seat(0, 9, 0)", x.seat(0, 9, 0), UNKNOWN);
    });
    test(8, NUMBERED, () -> {
      LoneSeats x = hall("Hr15");
      due("ask(1, 9)", x.ask(1, 9), 1);
      due("party(0, 0)", x.party(0, 0), UNKNOWN);
      due("party(1, 0)", x.party(1, 0), 1);
      due("party(2, 0)", x.party(2, 0), UNKNOWN);
    });
    test(18, NUMBERED, () -> {
      LoneSeats x = new LoneSeats();
      x.ask(1, 9);
      due("waits(0)", x.waits(0), 1);
      due("waits(1)", x.waits(1), NONE);
    });
    test(4, NUMBERED, () -> due("fault() of x", written("x").fault(), 0));
    test(19, NUMBERED, () -> due("judge(1, 0)", new LoneSeats().judge(1, 0), 0));
  }

  private static void sets() {
    test(6, BITS, () -> {
      LoneSeats x = hall("Hr1555555555r10|0000000|0");
      due("nine free seats", x.row(0, 3), 511);
      due("the lone seats 0 and 8", x.row(1, 4), 1 + 256);
      x.ask(6, 9);
      due("the free seats 6 to 8", x.row(0, 3), 64 + 128 + 256);
    });
    test(22, BITS, () -> {
      due("party 1 alone", hall("Hr15", "19").which(), 2);
      due("party 30 alone", thirty().which(), 1 << 30);
      LoneSeats x = hall(SINGLES);
      for (int p = 1; p <= 30; p++) x.ask(1, 9);
      due("the parties 1 to 30", x.which(), 0x7ffffffe);
    });
  }

  private static void codes() {
    test(1, "`UNKNOWN = -1, OUTSIDE = -2, STATE = -3, FULL = -4, NONE = -9`: UNKNOWN, OUTSIDE, STATE, FULL: error"
        + " codes; NONE: there is none; see the class description.", () -> {
      due("UNKNOWN", LoneSeats.UNKNOWN, -1);
      due("OUTSIDE", LoneSeats.OUTSIDE, -2);
      due("STATE", LoneSeats.STATE, -3);
      due("FULL", LoneSeats.FULL, -4);
      due("NONE", LoneSeats.NONE, -9);
    });
    test(16, "NONE (-9) means \"there is none\".", () -> {
      due("best(1, 9, 0) without rows", new LoneSeats().best(1, 9, 0), -9);
    });
    test(1, "The error codes are UNKNOWN (-1, there is no such row, seat, party or slot), OUTSIDE (-2, another"
        + " argument is out of its range), STATE (-3) and FULL (-4), as told at the methods.", () -> {
      LoneSeats x = new LoneSeats();
      due("no such row", x.row(0, 0), -1);
      due("no such seat", x.seat(0, 0, 0), -1);
      due("no such party", x.party(1, 0), -1);
      due("no such slot", x.keep(2), -1);
      due("another argument", x.count(11), -2);
      due("the state", x.undo(), -3);
      due("all are there", thirty().ask(1, 9), -4);
    });
  }

  private static void firstError() {
    test(2, FIRST, () -> {
      LoneSeats x = written("H".repeat(80));
      due("write(256), the text being full", x.write(256), OUTSIDE);
      due("write(-1), the text being full", x.write(-1), OUTSIDE);
    });
    test(6, FIRST, () -> due("row(3, 5)", busy().row(3, 5), UNKNOWN));
    test(7, FIRST, () -> {
      due("seat(3, 0, 3)", busy().seat(3, 0, 3), UNKNOWN);
      due("seat(2, 1, -1)", busy().seat(2, 1, -1), UNKNOWN);
    });
    test(8, FIRST, () -> {
      due("party(6, 6)", busy().party(6, 6), UNKNOWN);
      due("party(0, -1)", busy().party(0, -1), UNKNOWN);
    });
    test(9, FIRST, () -> {
      due("ask(0, 9) after 30 parties", thirty().ask(0, 9), OUTSIDE);
      due("ask(1, 10) after 30 parties", thirty().ask(1, 10), OUTSIDE);
      due("ask(7, 9) with five waiting", fiveWaiting().ask(7, 9), OUTSIDE);
      due("ask(3, 0) with five waiting", fiveWaiting().ask(3, 0), OUTSIDE);
    });
    test(10, FIRST, () -> due("giveBack(6), neither there nor seated", busy().giveBack(6), UNKNOWN));
    test(11, FIRST, () -> due("leave(6), neither there nor waiting", busy().leave(6), UNKNOWN));
    test(12, FIRST, () -> due("shift(6), neither there nor seated", busy().shift(6), UNKNOWN));
    test(13, FIRST, () -> {
      due("price(3, 0)", busy().price(3, 0), UNKNOWN);
      due("price(-1, 10)", busy().price(-1, 10), UNKNOWN);
    });
    test(20, FIRST, () -> {
      due("see(3, 0, 2)", busy().see(3, 0, 2), UNKNOWN);
      due("see(0, 2, 0) with six", sixSeen().see(0, 2, 0), UNKNOWN);
      due("see(0, 2, 2) with six", sixSeen().see(0, 2, 2), UNKNOWN);
      due("see(0, 1, 2) with six", sixSeen().see(0, 1, 2), OUTSIDE);
    });
    test(23, FIRST, () -> due("share(3, 0, true)", busy().share(3, 0, true), UNKNOWN));
    test(24, FIRST, () -> {
      due("away(3, 10, 0, true)", busy().away(3, 10, 0, true), UNKNOWN);
      due("away(-1, 0, 11, true)", busy().away(-1, 0, 11, true), UNKNOWN);
    });
    test(28, FIRST, () -> due("again(2), neither there nor filled", busy().again(2), UNKNOWN));
  }

  private static void noneLast() {
    test(8, NONE_LAST, () -> {
      LoneSeats x = busy();
      due("party(3, 3), it waits", x.party(3, 3), NONE);
      due("party(6, 3)", x.party(6, 3), UNKNOWN);
      due("party(3, 6)", x.party(3, 6), OUTSIDE);
    });
    test(16, NONE_LAST, () -> {
      LoneSeats x = new LoneSeats();
      due("best(1, 1, 1)", x.best(1, 1, 1), NONE);
      due("best(7, 1, 0)", x.best(7, 1, 0), OUTSIDE);
      due("best(1, 0, 1)", x.best(1, 0, 1), OUTSIDE);
      due("best(1, 1, 3)", x.best(1, 1, 3), OUTSIDE);
    });
    test(19, NONE_LAST, () -> {
      LoneSeats x = new LoneSeats();
      due("judge(1, 500)", x.judge(1, 500), NONE);
      due("judge(5, 500)", x.judge(5, 500), OUTSIDE);
      due("judge(1, 5000)", x.judge(1, 5000), OUTSIDE);
    });
  }

  private static void nothingInTheHall() {
    test(2, NOTHING, () -> {
      refused("write(-1)", Edges::busy, x -> x.write(-1), OUTSIDE);
      refused("write(256)", Edges::busy, x -> x.write(256), OUTSIDE);
      refused("write(300) when full", () -> written("H".repeat(80)), x -> x.write(300), OUTSIDE);
      refused("write(72) when full", () -> written("Hr15".repeat(20)), x -> x.write(72), FULL);
      refused("write(120) when full", () -> written("Hr15".repeat(20)), x -> x.write(120), FULL);
    });
    test(5, NOTHING, () -> {
      refused("hall() of Hr", Edges::busy, LoneSeats::hall, STATE);
      refused("hall() of rows and a fault", () -> {
        LoneSeats x = busy();
        rewrite(x, "Hr9|");
        for (char c : "r8765432r1999r2x".toCharArray()) x.write(c);
        return x;
      }, LoneSeats::hall, STATE);
      refused("hall() of three rows, the last without seats", () -> {
        LoneSeats x = busy();
        rewrite(x, "Hr98765r100|0r3");
        return x;
      }, LoneSeats::hall, STATE);
    });
    test(6, NOTHING, () -> {
      refused("row(3, 0)", Edges::busy, x -> x.row(3, 0), UNKNOWN);
      refused("row(0, 5)", Edges::busy, x -> x.row(0, 5), OUTSIDE);
    });
    test(7, NOTHING, () -> {
      refused("seat(0, 5, 0)", Edges::busy, x -> x.seat(0, 5, 0), UNKNOWN);
      refused("seat(0, 0, 3)", Edges::busy, x -> x.seat(0, 0, 3), OUTSIDE);
    });
    test(8, NOTHING, () -> {
      refused("party(6, 0)", Edges::busy, x -> x.party(6, 0), UNKNOWN);
      refused("party(1, 6)", Edges::busy, x -> x.party(1, 6), OUTSIDE);
    });
  }

  private static void nothingByActs() {
    test(9, NOTHING, () -> {
      refused("ask(0, 9)", Edges::busy, x -> x.ask(0, 9), OUTSIDE);
      refused("ask(7, 9)", Edges::busy, x -> x.ask(7, 9), OUTSIDE);
      refused("ask(1, 0)", Edges::busy, x -> x.ask(1, 0), OUTSIDE);
      refused("ask(1, 10)", Edges::busy, x -> x.ask(1, 10), OUTSIDE);
      refused("ask(2, 9) after 30 parties", Edges::thirty, x -> x.ask(2, 9), FULL);
      refused("ask(3, 9) with five waiting", Edges::fiveWaiting, x -> x.ask(3, 9), FULL);
    });
    test(10, NOTHING, () -> {
      refused("giveBack(6)", Edges::busy, x -> x.giveBack(6), UNKNOWN);
      refused("giveBack(2), it is gone", Edges::busy, x -> x.giveBack(2), STATE);
      refused("giveBack(3), it waits", Edges::busy, x -> x.giveBack(3), STATE);
    });
    test(11, NOTHING, () -> {
      refused("leave(6)", Edges::busy, x -> x.leave(6), UNKNOWN);
      refused("leave(1), it is seated", Edges::busy, x -> x.leave(1), STATE);
      refused("leave(2), it is gone", Edges::busy, x -> x.leave(2), STATE);
    });
    test(12, NOTHING, () -> {
      refused("shift(6)", Edges::busy, x -> x.shift(6), UNKNOWN);
      refused("shift(2), it is gone", Edges::busy, x -> x.shift(2), STATE);
      refused("shift(3), it waits", Edges::busy, x -> x.shift(3), STATE);
      refused("shift(1), nothing better", Edges::busy, x -> x.shift(1), STATE);
    });
    test(13, NOTHING, () -> {
      refused("price(3, 5)", Edges::busy, x -> x.price(3, 5), UNKNOWN);
      refused("price(0, 0)", Edges::busy, x -> x.price(0, 0), OUTSIDE);
      refused("price(0, 10)", Edges::busy, x -> x.price(0, 10), OUTSIDE);
    });
    test(14, NOTHING, () -> {
      refused("fee(-1)", Edges::busy, x -> x.fee(-1), OUTSIDE);
      refused("fee(10)", Edges::busy, x -> x.fee(10), OUTSIDE);
    });
    test(15, NOTHING, () -> {
      refused("undo() after again()", () -> {
        LoneSeats x = busy();
        x.again(0);
        return x;
      }, LoneSeats::undo, STATE);
      refused("undo() at the end of the past", () -> {
        LoneSeats x = busy();
        for (int i = 0; i < 8; i++) x.undo();
        return x;
      }, LoneSeats::undo, STATE);
    });
  }

  private static void nothingByQuestions() {
    test(16, NOTHING, () -> refused("best(7, 9, 0)", Edges::busy, x -> x.best(7, 9, 0), OUTSIDE));
    test(17, NOTHING, () -> refused("room(7)", Edges::busy, x -> x.room(7), OUTSIDE));
    test(19, NOTHING, () -> {
      refused("judge(5, 201)", Edges::busy, x -> x.judge(5, 201), OUTSIDE);
      refused("judge(1, 1201)", Edges::busy, x -> x.judge(1, 1201), OUTSIDE);
    });
    test(20, NOTHING, () -> {
      refused("see(3, 0, 1)", Edges::busy, x -> x.see(3, 0, 1), UNKNOWN);
      refused("see(0, 0, 2)", Edges::busy, x -> x.see(0, 0, 2), OUTSIDE);
      refused("see(0, 0, 0) with six", Edges::sixSeen, x -> x.see(0, 0, 0), FULL);
      refused("see(0, 1, 1) with six", Edges::sixSeen, x -> x.see(0, 1, 1), FULL);
    });
    test(23, NOTHING, () -> {
      refused("share(3, 1, true)", Edges::busy, x -> x.share(3, 1, true), UNKNOWN);
      refused("share(0, 7, true)", Edges::busy, x -> x.share(0, 7, true), OUTSIDE);
    });
    test(24, NOTHING, () -> {
      refused("away(3, 1, 1, true)", Edges::busy, x -> x.away(3, 1, 1, true), UNKNOWN);
      refused("away(0, 10, 1, true)", Edges::busy, x -> x.away(0, 10, 1, true), OUTSIDE);
    });
    test(26, NOTHING, () -> {
      refused("drawn(0)", Edges::busy, x -> x.drawn(0), OUTSIDE);
      refused("drawn(21)", Edges::busy, x -> x.drawn(21), OUTSIDE);
    });
    test(27, NOTHING, () -> {
      refused("keep(-1)", Edges::busy, x -> x.keep(-1), UNKNOWN);
      refused("keep(2)", Edges::busy, x -> x.keep(2), UNKNOWN);
    });
    test(28, NOTHING, () -> {
      refused("again(-1)", Edges::busy, x -> x.again(-1), UNKNOWN);
      refused("again(2)", Edges::busy, x -> x.again(2), UNKNOWN);
      refused("again(1), it is empty", Edges::busy, x -> x.again(1), STATE);
    });
    test(29, NOTHING, () -> refused("count(11)", Edges::busy, x -> x.count(11), OUTSIDE));
  }

  private static void fractions() {
    test(23, PARTS, () -> {
      // Row 0 brings 1 if it is opened first, row 1 brings 2 or 1: 1/2 and 3/2.
      LoneSeats x = hall("Hr11r12");
      due("share(0, 1, true)", x.share(0, 1, true), 1);
      due("share(0, 1, false)", x.share(0, 1, false), 2);
      due("share(1, 1, true)", x.share(1, 1, true), 3);
      due("share(1, 1, false)", x.share(1, 1, false), 2);
    });
    test(24, PARTS, () -> {
      LoneSeats x = hall("Hr15", "19");
      due("away(0, 1, 3, true)", x.away(0, 1, 3, true), 7);
      due("away(0, 1, 3, false)", x.away(0, 1, 3, false), 10);
    });
    test(23, LOWEST, () -> {
      LoneSeats x = hall("Hr10r15");
      due("share(0, 1, true), the view is 0", x.share(0, 1, true), 0);
      due("share(0, 1, false)", x.share(0, 1, false), 1);
      due("share(1, 1, true), 10 / 2", x.share(1, 1, true), 5);
      due("share(1, 1, false)", x.share(1, 1, false), 1);
      LoneSeats y = hall("Hr12r12r12r12");
      due("share(3, 1, true), 12 / 24", y.share(3, 1, true), 1);
      due("share(3, 1, false)", y.share(3, 1, false), 2);
    });
    test(24, LOWEST, () -> {
      LoneSeats x = hall("Hr15", "19");
      due("away(0, 2, 3, true)", x.away(0, 2, 3, true), 0);
      due("away(0, 2, 3, false)", x.away(0, 2, 3, false), 1);
      due("away(0, 1, 10, false)", x.away(0, 1, 10, false), 1);
      due("away(0, 1, 5, true)", x.away(0, 1, 5, true), 1);
      due("away(0, 1, 5, false)", x.away(0, 1, 5, false), 2);
      due("away(0, 0, 5, true)", x.away(0, 0, 5, true), 1);
      due("away(0, 0, 5, false)", x.away(0, 0, 5, false), 1);
    });
  }

  private static void lastCall() {
    test(1, "An object is used for at most 512 calls after it has been made", () -> {
      LoneSeats x = new LoneSeats();
      int calls = 0;
      for (char c : "Hr15".toCharArray()) {
        x.write(c);
        calls++;
      }
      due("hall()", x.hall(), 1);
      calls++;
      for (; calls < 510; calls++) due("fee()", x.fee((calls - 4) % 10), (calls - 5) % 10);
      due("call 511, undo()", x.undo(), 13);
      due("call 512, count(7)", x.count(7), (508 - 4) % 10);
    });
    // A call that throws is told as a wrong answer.
    test(1, "what later calls answer is free.", () -> {
      LoneSeats x = hall("Hr15|5");
      for (int i = 0; i < 3000; i++) {
        x.ask(1 + i % 6, 1 + i % 9);
        x.giveBack(i % 31);
        x.undo();
        x.see(0, i % 2, i % 2);
        x.write(i % 256);
      }
    });
  }
}
