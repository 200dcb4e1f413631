/** The boundary cases of the promises 27 to 29: slots and counts. */
final class SlotEdges extends Edges {
  static void all() {
    keep();
    keepAnswers();
    again();
    againAnswers();
    count();
    countOutside();
  }

  private static final String KEEPS = "Keeps parties, seats, queue, prices, fee and takings in a slot, in place of"
      + " what it has.";

  /** Nearly everything that can be kept is changed. */
  private static void turnOver(LoneSeats x) {
    x.giveBack(1);
    x.leave(5);
    x.price(0, 9);
    x.fee(9);
    x.ask(1, 9);
    x.ask(6, 1);
  }

  private static void keep() {
    test(27, KEEPS, () -> {
      for (int slot = 0; slot < 2; slot++) {
        LoneSeats x = busy();
        x.keep(slot);
        String people = people(x);
        turnOver(x);
        due("again(" + slot + ")", x.again(slot), 5);
        same("the parties and the queue", people(x), people);
        LoneSeats y = busy();
        y.keep(slot);
        // The acts that can be undone are among the counts, so that both looks come after again().
        y.again(slot);
        String looks = looks(y);
        turnOver(y);
        y.again(slot);
        same("the hall and the counts", looks(y), looks);
      }
    });
    test(27, KEEPS, () -> {
      LoneSeats x = hall("Hr15");
      for (int v = 1; v <= 3; v++) {
        x.fee(v);
        x.keep(0);
      }
      x.fee(4);
      x.keep(1);
      x.fee(5);
      x.again(0);
      due("the latest of slot 0", x.count(7), 3);
      x.again(1);
      due("slot 1 is another one", x.count(7), 4);
    });
    test(27, KEEPS, () -> {
      LoneSeats x = thirty();
      x.keep(0);
      x.undo();
      x.ask(2, 4);
      due("another party 30", x.party(30, 0), 2);
      x.again(0);
      int[] want = {1, 9, 1, 0, 0, 1};
      for (int what = 0; what <= 5; what++) due("party(30, " + what + ")", x.party(30, what), want[what]);
      due("nobody waits", x.waits(0), NONE);
      LoneSeats five = fiveWaiting();
      five.keep(1);
      for (int p = 1; p <= 5; p++) five.leave(p);
      five.again(1);
      for (int i = 0; i < 5; i++) due("waits(" + i + ")", five.waits(i), i + 1);
      LoneSeats prices = hall("Hr15r25r35r45");
      for (int r = 0; r < 4; r++) prices.price(r, 9 - r);
      prices.keep(0);
      for (int r = 0; r < 4; r++) prices.price(r, 5);
      prices.again(0);
      for (int r = 0; r < 4; r++) due("row(" + r + ", 0)", prices.row(r, 0), 9 - r);
    });
    test(27, "Keeps parties, seats, queue, prices, fee and takings in a slot", () -> {
      LoneSeats x = busy();
      x.keep(1);
      due("no act", x.count(9), 8);
      due("and the acts can still be undone", x.undo(), 7);
      due("which is no part of the slot", x.again(1), 5);
      due("party 2 is gone there", x.party(2, 2), 0);
    });
  }

  private static void keepAnswers() {
    test(27, "`slot`: the slot, 0 or 1", () -> {
      LoneSeats x = hall("Hr15");
      due("keep(0)", x.keep(0), 0);
      due("slot 1 is empty", x.again(1), STATE);
      due("keep(1)", x.keep(1), 0);
      due("again(0)", x.again(0), 0);
      due("again(1)", x.again(1), 0);
    });
    test(27, "Returns the number of parties that have asked", () -> {
      due("none, and no rows", new LoneSeats().keep(0), 0);
      due("thirty, though most are gone", thirty().keep(1), 30);
      due("five, seated, waiting or gone", busy().keep(0), 5);
    });
    test(27, "UNKNOWN if there is no such slot.", () -> {
      LoneSeats x = hall("Hr15");
      for (int slot : new int[] {-1, 2, 3, LEAST, MOST}) due("keep(" + slot + ")", x.keep(slot), UNKNOWN);
      due("slot 0 is empty still", x.again(0), STATE);
      due("slot 1 is empty still", x.again(1), STATE);
    });
  }

  private static void again() {
    test(28, "Restores what a slot has; it stays there.", () -> {
      LoneSeats x = hall("Hr15", "19");
      x.keep(0);
      for (int i = 0; i < 3; i++) {
        x.giveBack(1);
        x.ask(6, 6);
        due("again(0)", x.again(0), 1);
        due("party 1 is seated", x.seat(0, 0, 2), 1);
        due("nobody waits", x.waits(0), NONE);
        due("there is no party 2", x.party(2, 0), UNKNOWN);
      }
      LoneSeats empty = new LoneSeats();
      empty.keep(1);
      empty.ask(1, 1);
      due("again(1), kept without rows and parties", empty.again(1), 0);
      due("nobody waits", empty.count(3), 0);
    });
    test(28, "Restores what a slot has", () -> {
      LoneSeats x = hall("Hr15", "19");
      x.keep(0);
      x.see(0, 0, 1);
      x.seed(5);
      x.write('x');
      x.again(0);
      due("what was seen stays", x.count(10), 1);
      due("the seed stays", x.seed(0), 5);
      due("the text stays", x.count(0), 5);
      LoneSeats y = hall("Hr2123", "29 19");
      y.keep(0);
      y.again(0);
      due("there is a place for party 1", y.best(2, 9, 0), 0);
      due("but nobody is let in by again()", y.party(1, 2), 2);
    });
    test(28, "No act can be undone then.", () -> {
      LoneSeats x = hall("Hr15");
      x.fee(1);
      x.keep(0);
      for (int i = 0; i < 20; i++) x.fee(i % 10);
      x.again(0);
      due("count(9)", x.count(9), 0);
      due("undo()", x.undo(), STATE);
      due("the fee", x.count(7), 1);
      x.fee(6);
      x.fee(7);
      due("a later act can be undone", x.undo(), 1);
      due("the fee", x.count(7), 6);
      due("and the other one", x.undo(), 0);
      due("the fee", x.count(7), 1);
      due("but not what was before", x.undo(), STATE);
    });
  }

  private static void againAnswers() {
    test(28, "`slot`: the slot, 0 or 1", () -> {
      LoneSeats x = hall("Hr15");
      x.keep(0);
      x.ask(1, 9);
      x.keep(1);
      due("again(0)", x.again(0), 0);
      due("again(1)", x.again(1), 1);
      due("again(0)", x.again(0), 0);
    });
    test(28, "Returns the number of parties that have asked then", () -> {
      LoneSeats x = thirty();
      x.keep(0);
      x.undo();
      x.keep(1);
      due("again(0)", x.again(0), 30);
      due("again(1)", x.again(1), 29);
      LoneSeats y = hall("Hr15");
      y.keep(0);
      y.ask(1, 1);
      due("none", y.again(0), 0);
    });
    test(28, "UNKNOWN if there is no such slot", () -> {
      LoneSeats x = hall("Hr15");
      x.keep(0);
      x.keep(1);
      for (int slot : new int[] {-1, 2, 3, LEAST, MOST}) due("again(" + slot + ")", x.again(slot), UNKNOWN);
    });
    test(28, "STATE if the slot is empty.", () -> {
      due("slot 0 of a new object", new LoneSeats().again(0), STATE);
      due("slot 1 of a new object", new LoneSeats().again(1), STATE);
      LoneSeats x = hall("Hr15");
      x.keep(0);
      due("the other one", x.again(1), STATE);
      due("this one", x.again(0), 0);
      LoneSeats y = hall("Hr15");
      y.keep(1);
      due("the other one", y.again(0), STATE);
      y.hall();
      due("after hall()", y.again(1), STATE);
    });
  }

  private static void extremes(int what, LoneSeats least, long lowest, LoneSeats most, long highest) {
    due("the least count(" + what + ")", least.count(what), lowest);
    due("the greatest count(" + what + ")", most.count(what), highest);
  }

  private static LoneSeats withFees(int acts) {
    LoneSeats x = new LoneSeats();
    for (int i = 0; i < acts; i++) x.fee(9);
    return x;
  }

  private static LoneSeats crowded() {
    LoneSeats x = hall(SINGLES);
    for (int r = 0; r < 4; r++) x.price(r, 9);
    for (int p = 1; p <= 30; p++) x.ask(1, 9);
    return x;
  }

  private static void count() {
    test(29, "`what`: 0 for the length of the text, 1 for the rows, 2 for the parties that have asked, 3 for those"
        + " that wait, 4 for those that are seated, 5 for the free seats, 6 for the lone seats, 7 for the fee, 8 for"
        + " the takings, 9 for the acts that can be undone, 10 for the observations", () -> {
      extremes(0, new LoneSeats(), 0, written("x".repeat(80)), 80);
      extremes(1, new LoneSeats(), 0, hall(SINGLES), 4);
      extremes(2, new LoneSeats(), 0, thirty(), 30);
      extremes(3, crowded(), 0, fiveWaiting(), 5);
      extremes(4, fiveWaiting(), 0, crowded(), 30);
      extremes(5, thirty(), 0, hall(SINGLES), 36);
      extremes(6, hall("H" + "r1555555555".repeat(4)), 0, hall(SINGLES), 36);
      extremes(7, new LoneSeats(), 0, withFees(1), 9);
      extremes(8, fiveWaiting(), 0, crowded(), 270);
      extremes(9, new LoneSeats(), 0, withFees(15), 14);
      extremes(10, new LoneSeats(), 0, sixSeen(), 6);
      LoneSeats x = busy();
      int[] want = {2, 3, 5, 2, 2, 9, 0, 1, 18, 8, 2};
      for (int what = 0; what <= 10; what++) due("count(" + what + ")", x.count(what), want[what]);
    });
    test(29, "8 for the takings", () -> {
      LoneSeats x = hall("Hr9555555");
      x.fee(9);
      for (int p = 1; p <= 30; p++) {
        x.ask(6, 9);
        due("giveBack(" + p + ")", x.giveBack(p), 0);
        due("takings", x.count(8), 54 * p);
      }
    });
  }

  private static void countOutside() {
    test(29, "OUTSIDE if what is not 0 to 10.", () -> {
      LoneSeats x = busy();
      for (int what : new int[] {-1, 11, LEAST, MOST}) due("count(" + what + ")", x.count(what), OUTSIDE);
    });
  }
}
