/** The boundary cases of parties, of acts and of the promises 9 to 15. */
final class ActEdges extends Edges {
  static void all() {
    parties();
    lone();
    place();
    bestPlace();
    seating();
    queue();
    acts();
    ask();
    askFull();
    giveBack();
    giveBackRefused();
    leave();
    shiftPlace();
    shiftLone();
    shiftMove();
    shiftRefused();
    price();
    fee();
    undo();
    undoRestores();
  }

  private static void parties() {
    test(9, "There are at most 30 parties, numbered from 1 in the order in which they ask.", () -> {
      LoneSeats x = hall(SINGLES);
      for (int p = 1; p <= 30; p++) due("ask(1, 9)", x.ask(1, 9), p);
      due("ask(1, 9), the 31st", x.ask(1, 9), FULL);
      due("parties", x.count(2), 30);
      due("free seats", x.count(5), 6);
      LoneSeats y = hall("Hr15");
      due("a waiting one", y.ask(2, 9), 1);
      due("a seated one", y.ask(1, 9), 2);
      y.giveBack(2);
      due("numbers of those that are gone are not used again", y.ask(1, 9), 3);
    });
    test(9, "A party has a size, 1 to 6, and a limit, 1 to 9, and it is seated, waits, or is gone.", () -> {
      for (int size = 0; size <= 7; size++) {
        for (int limit = 0; limit <= 10; limit++) {
          boolean fits = size >= 1 && size <= 6 && limit >= 1 && limit <= 9;
          due("ask(" + size + ", " + limit + ")", hall("Hr5555555").ask(size, limit), fits ? 1 : OUTSIDE);
        }
      }
    });
    test(7, "A seat is taken by a party or free.", () -> {
      LoneSeats x = hall("Hr15", "19");
      due("taken", x.seat(0, 0, 2), 1);
      due("not in the set of the free ones", x.row(0, 3), 0);
      x.giveBack(1);
      due("free", x.seat(0, 0, 2), 0);
      due("in the set of the free ones", x.row(0, 3), 1);
    });
  }

  private static void lone() {
    test(6, "A free seat is lone if no seat beside it in its block is free (also if it is alone in its block).",
        () -> {
          LoneSeats x = hall("Hr15|55|5r15r1009", "19");
          due("alone in their blocks", x.row(0, 4), 1 + 8);
          due("beside a taken one, two are free", x.row(2, 4), 0);
          LoneSeats y = hall("Hr1012", "11 21");
          due("none is free", y.row(0, 4), 0);
          y.giveBack(1);
          due("the last one, beside a taken one", y.row(0, 4), 4);
          LoneSeats z = hall("Hr1210", "11 21");
          z.giveBack(1);
          due("the first one, beside a taken one", z.row(0, 4), 1);
          LoneSeats w = hall("Hr1999000", "39 19 29");
          // Party 1 has 0 to 2, party 2 has 3, party 3 has 4 and 5.
          w.giveBack(2);
          due("between taken ones", w.row(0, 4), 8);
          due("a taken seat is not lone", hall("Hr15", "19").row(0, 4), 0);
          LoneSeats v = hall("Hr155|5", "29");
          due("the free seat across an aisle", v.row(0, 4), 4);
          v.giveBack(1);
          due("is lone whether the seats there are free or not", v.row(0, 4), 4);
        });
  }

  private static void place() {
    test(16, "such that the seats s to s + n - 1 are in one block and free", () -> {
      LoneSeats x = hall("Hr155|55");
      due("two blocks of two", x.best(2, 9, 2), 2);
      due("three over the aisle", x.best(3, 9, 0), NONE);
      due("four", x.best(4, 9, 0), NONE);
      x.ask(2, 9);
      due("one block is taken", x.best(2, 9, 2), 1);
      due("the other", x.best(2, 9, 0), 2);
      x.ask(2, 9);
      due("all is taken", x.best(1, 9, 2), 0);
      due("the whole row", hall("Hr1555555").best(6, 9, 0), 0);
      due("longer than the row", hall("Hr155555").best(6, 9, 0), NONE);
      due("not on into the next row", hall("Hr155r15555").best(6, 9, 0), NONE);
      due("the last seats of nine", hall("Hr1000555555").best(6, 9, 0), 3);
    });
    test(16, "the price of the row is at most the limit", () -> {
      LoneSeats x = hall("Hr5555");
      due("the limit above it", x.best(3, 6, 0), 0);
      due("the limit at it", x.best(3, 5, 0), 0);
      due("the limit below it", x.best(3, 4, 0), NONE);
      due("price 1, limit 1", hall("Hr15").best(1, 1, 0), 0);
      due("price 9, limit 9", hall("Hr95").best(1, 9, 0), 0);
      due("price 9, limit 8", hall("Hr95").best(1, 8, 0), NONE);
      x.price(0, 4);
      due("by the present price", x.best(3, 4, 0), 0);
    });
    test(16, "the number of lone seats in the whole hall would not be greater if these seats were taken", () -> {
      due("one more, at an end", hall("Hr1555").best(2, 9, 2), 0);
      due("two more, from the middle", hall("Hr1555").best(1, 9, 2), 2);
      due("one less", hall("Hr15").best(1, 9, 2), 1);
      LoneSeats x = hall("Hr1012", "11 21");
      x.giveBack(1);
      due("one less, beside a taken one", x.best(1, 1, 0), 2);
      due("a lone seat in another row is no help", hall("Hr1555r15").best(2, 9, 2), 0);
      due("a lone seat in another block is no help", hall("Hr1555|5").best(2, 9, 2), 0);
      due("the same number", hall("Hr15555").best(2, 9, 2), 2);
    });
  }

  private static void bestPlace() {
    test(16, "The quality of a place is the sum of the views of its seats.", () -> {
      due("the least", hall("Hr1000000").best(6, 9, 1), 0);
      due("the greatest", hall("Hr1999999").best(6, 9, 1), 54);
      due("of one seat", hall("Hr17").best(1, 9, 1), 7);
      due("in the last seats of the last row", hall("Hr15r15r15r1000123456").best(6, 9, 1), 21);
    });
    test(16, "The best place is the one with the greatest quality; of several, that with the lowest price, then"
        + " the lowest row, then the lowest first seat.", () -> {
      due("by one, though dearer and behind", hall("Hr155r155r155r956").best(2, 9, 0), 30);
      due("the lowest price, though behind", hall("Hr955r855r755r655").best(2, 9, 0), 30);
      due("the lowest price in the middle", hall("Hr955r155r255r955").best(2, 9, 0), 10);
      due("the lowest row", hall("Hr955r255r255r255").best(2, 9, 0), 10);
      due("the lowest first seat", hall("Hr100|55|55|55").best(2, 9, 0), 2);
      due("the lowest first seat of all", hall("Hr1555555555").best(1, 9, 0), 0);
      due("the lowest row before the lowest seat", hall("Hr100|55r155").best(2, 9, 0), 2);
      due("the lowest price before the lowest row and seat", hall("Hr255r100|55").best(2, 9, 0), 12);
      LoneSeats x = hall("Hr155r155");
      x.price(0, 2);
      due("by the present prices", x.best(2, 9, 0), 10);
    });
  }

  private static void seating() {
    test(9, "When a party is seated, it takes the seats of the best place for its size and limit, and pays size *"
        + " (price of the row).", () -> {
      LoneSeats x = hall("Hr9999999r8888888r7777777r1000000", "69 68 67 66");
      int[] pays = {54, 48, 42, 6};
      for (int p = 1; p <= 4; p++) {
        due("the row of party " + p, x.party(p, 3), p - 1);
        due("what party " + p + " paid", x.party(p, 5), pays[p - 1]);
        due("row " + (p - 1), x.row(p - 1, 3), 0);
      }
    });
    test(29, "The takings, 0 at first, are all that was paid minus all that was paid back.", () -> {
      LoneSeats x = hall("Hr35r55");
      due("at first", x.count(8), 0);
      parties(x, "19 19");
      due("paid", x.count(8), 8);
      x.fee(4);
      due("giveBack(2), which has row 1", x.giveBack(2), 1);
      due("paid back", x.count(8), 7);
      due("giveBack(1), nothing", x.giveBack(1), 0);
      due("nothing paid back", x.count(8), 7);
      LoneSeats y = hall("Hr35", "19");
      y.giveBack(1);
      due("all paid back", y.count(8), 0);
    });
  }

  private static void queue() {
    test(9, "At most 5 parties wait, in a queue.", () -> {
      LoneSeats x = new LoneSeats();
      for (int p = 1; p <= 5; p++) due("ask(1, 1)", x.ask(1, 1), p);
      due("the sixth", x.ask(1, 1), FULL);
      due("those that wait", x.count(3), 5);
      x.leave(1);
      due("a sixth when one has left", x.ask(1, 1), 6);
      due("a seventh", x.ask(1, 1), FULL);
    });
    test(10, "To let in means: for each party in the queue, once, from the first one on: if there is a place for"
        + " it at that moment, it is seated and leaves the queue.", () -> {
      LoneSeats none = hall("Hr15", "19");
      none.giveBack(1);
      due("nobody waits", none.count(5), 1);
      LoneSeats all = hall("Hr1555555", "69 19 19 19 29 19");
      due("giveBack(1)", all.giveBack(1), 6);
      // 2 takes seat 0, 3 seat 1, 4 seat 2, 5 would leave a lone seat, 6 takes seat 3.
      int[] first = {0, 1, 2, NONE, 3};
      for (int p = 2; p <= 6; p++) due("the seat of party " + p, all.party(p, 4), first[p - 2]);
      due("the queue", all.waits(0), 5);
      due("nobody behind", all.waits(1), NONE);
      due("party 5 is not asked twice, though there is a place", all.best(2, 9, 0), 4);
      due("takings", all.count(8), 4);
      LoneSeats five = hall("Hr1555555", "69 19 19 19 19 19");
      five.giveBack(1);
      due("all but the last, who would leave a lone seat", five.count(3), 1);
      due("the queue", five.waits(0), 6);
      due("takings", five.count(8), 4);
      LoneSeats first2 = hall("Hr155", "29 29 29");
      first2.giveBack(1);
      due("the first one has the place", first2.party(2, 2), 1);
      due("the second one has none then", first2.party(3, 2), 2);
      due("and is the first now", first2.waits(0), 3);
      LoneSeats last = hall("Hr95r95r95r15", "11 11");
      last.giveBack(1);
      due("in the last row", last.seat(3, 0, 2), 2);
    });
    test(14, "There is a fee, 0 to 9 and 0 at first.", () -> {
      due("at first", new LoneSeats().count(7), 0);
      for (int v = -1; v <= 10; v++) {
        due("fee(" + v + ")", new LoneSeats().fee(v), v >= 0 && v <= 9 ? 0 : OUTSIDE);
      }
    });
  }

  private static final String UNDONE = "The latest 14 acts can be undone, the latest one first.";

  private static void acts() {
    test(15, "ask(), giveBack(), leave(), shift(), price() and fee() are acts, unless they return an error.", () -> {
      LoneSeats x = hall("Hr14|4r95|5");
      due("acts of a new hall", x.count(9), 0);
      x.ask(1, 3);
      due("ask() of a seated one", x.count(9), 1);
      x.ask(6, 3);
      due("ask() of a waiting one", x.count(9), 2);
      x.leave(2);
      due("leave()", x.count(9), 3);
      x.price(1, 3);
      due("price()", x.count(9), 4);
      due("shift(1)", x.shift(1), 1);
      due("shift()", x.count(9), 5);
      x.fee(0);
      due("fee(), the same", x.count(9), 6);
      x.price(1, 3);
      due("price(), the same", x.count(9), 7);
      x.giveBack(1);
      due("giveBack()", x.count(9), 8);
      x.ask(0, 1);
      x.giveBack(1);
      x.leave(1);
      x.shift(1);
      x.price(2, 1);
      x.fee(10);
      due("errors", x.count(9), 8);
      x.write('x');
      x.wipe();
      x.fault();
      x.hall();
      x.see(0, 0, 1);
      x.unsee();
      x.seed(9);
      x.drawn(20);
      x.judge(1, 119);
      x.room(1);
      x.keep(0);
      due("no other calls", x.count(9), 8);
    });
    test(15, UNDONE, () -> {
      for (int acts = 0; acts <= 40; acts++) {
        LoneSeats x = hall("Hr15");
        for (int i = 1; i <= acts; i++) x.fee(i % 10);
        int can = Math.min(acts, 14);
        due("after " + acts + " acts", x.count(9), can);
        for (int i = 1; i <= can; i++) {
          due("undo() " + i + " of " + acts, x.undo(), can - i);
          due("the fee", x.count(7), (acts - i) % 10);
        }
        due("undo() of one more than " + can, x.undo(), STATE);
      }
    });
    test(15, UNDONE, () -> {
      LoneSeats x = hall("Hr15");
      for (int i = 1; i <= 20; i++) x.fee(i % 10);
      for (int i = 0; i < 10; i++) x.undo();
      due("four are left", x.count(9), 4);
      for (int i = 1; i <= 12; i++) x.fee((i + 3) % 10);
      due("again the latest fourteen", x.count(9), 14);
      int[] fees = {4, 3, 2, 1, 0, 9, 8, 7, 6, 5, 4, 0, 9, 8};
      for (int i = 0; i < 14; i++) {
        due("undo()", x.undo(), 13 - i);
        due("the fee", x.count(7), fees[i]);
      }
      due("undo()", x.undo(), STATE);
    });
  }

  private static void ask() {
    test(9, "If there is a place for it, it is seated; otherwise it waits, at the end of the queue.", () -> {
      LoneSeats x = hall("Hr2123");
      due("ask(2, 9), it would leave a lone seat", x.ask(2, 9), 1);
      due("ask(3, 1), too dear", x.ask(3, 1), 2);
      due("ask(4, 9), too many", x.ask(4, 9), 3);
      for (int i = 0; i < 3; i++) due("waits(" + i + ")", x.waits(i), i + 1);
      due("no seat is taken", x.row(0, 3), 7);
      due("ask(3, 2), before all that wait", x.ask(3, 2), 4);
      due("it is seated", x.party(4, 2), 1);
      due("the queue stays", x.count(3), 3);
      due("no seat is free", x.row(0, 3), 0);
    });
    test(9, "Lets a new party ask for seats.", () -> {
      LoneSeats x = hall("Hr2123", "29 19");
      due("there is a place for party 1 now", x.best(2, 9, 0), 0);
      due("but nobody is let in by ask()", x.party(1, 2), 2);
    });
    test(9, "Returns the number of the party", () -> {
      due("the first", new LoneSeats().ask(1, 1), 1);
      LoneSeats x = thirty();
      x.undo();
      x.undo();
      due("29 are left", x.count(2), 29);
      x.giveBack(29);
      due("the 30th", x.ask(1, 1), 30);
    });
    test(9, "OUTSIDE if an argument is out of range", () -> {
      int[][] bad = {{0, 1}, {7, 1}, {1, 0}, {1, 10}, {0, 0}, {7, 10}, {-1, 5}, {5, -1}, {LEAST, 5}, {MOST, 5},
          {5, LEAST}, {5, MOST}};
      for (int[] b : bad) {
        LoneSeats x = hall("Hr1555555");
        due("ask(" + b[0] + ", " + b[1] + ")", x.ask(b[0], b[1]), OUTSIDE);
        due("parties", x.count(2), 0);
      }
    });
    test(9, "`size`: its size, 1 to 6", () -> {
      LoneSeats x = hall("Hr1555555r15");
      due("ask(6, 1)", x.ask(6, 1), 1);
      due("ask(1, 1)", x.ask(1, 1), 2);
      due("both are seated", x.count(4), 2);
    });
    test(9, "`limit`: its limit, 1 to 9", () -> {
      LoneSeats x = hall("Hr95r15");
      due("ask(1, 1)", x.ask(1, 1), 1);
      due("it has row 1", x.party(1, 3), 1);
      due("ask(1, 9)", x.ask(1, 9), 2);
      due("it has row 0", x.party(2, 3), 0);
    });
  }

  private static void askFull() {
    test(9, "FULL if there were 30 parties already", () -> {
      LoneSeats x = thirty();
      due("with nobody waiting, no place", x.ask(1, 9), FULL);
      x.giveBack(30);
      due("all are gone", x.count(4), 0);
      due("there is a place", x.best(1, 9, 0), 0);
      due("with a place", x.ask(1, 9), FULL);
      x.undo();
      x.undo();
      due("the 30th has not asked", x.count(2), 29);
      due("ask(2, 9)", x.ask(2, 9), 30);
      due("ask(2, 9) again", x.ask(2, 9), FULL);
    });
    test(9, "or if there is no place for it and 5 parties wait.", () -> {
      LoneSeats x = hall("Hr155", "39 39 39 39");
      due("four wait", x.ask(3, 9), 5);
      due("five wait", x.ask(3, 9), FULL);
      due("a lone seat would be left", x.ask(1, 9), FULL);
      due("but there is a place", x.ask(2, 9), 6);
      due("no place any more", x.ask(1, 9), FULL);
      due("five still wait", x.count(3), 5);
      due("six have asked", x.count(2), 6);
    });
  }

  private static void giveBack() {
    test(10, "Lets a seated party return its seats, which are free then.", () -> {
      LoneSeats x = hall("Hr15r15r15r1000999999", "69 39 19");
      due("the last six seats of the last row", x.party(1, 4), 3);
      x.giveBack(1);
      due("they are free", x.row(3, 3), 504);
      due("seat 3", x.seat(3, 3, 2), 0);
      due("seat 8", x.seat(3, 8, 2), 0);
      due("seat 2 is not", x.seat(3, 2, 2), 2);
    });
    test(10, "It gets back what it paid minus size * fee, but at least 0.", () -> {
      int[][] want = {{0, 15}, {1, 12}, {4, 3}, {5, 0}, {6, 0}, {9, 0}};
      for (int[] w : want) {
        LoneSeats x = hall("Hr5555", "39");
        x.fee(w[0]);
        due("giveBack(1), the fee " + w[0], x.giveBack(1), w[1]);
        due("takings", x.count(8), 15 - w[1]);
      }
      LoneSeats x = hall("Hr5555", "39");
      x.price(0, 9);
      due("not by the present price", x.giveBack(1), 15);
    });
    test(10, "The party is gone.", () -> {
      LoneSeats x = hall("Hr15", "19");
      x.giveBack(1);
      due("party(1, 2)", x.party(1, 2), 0);
      due("seated", x.count(4), 0);
      due("have asked", x.count(2), 1);
    });
    test(10, "Then others are let in.", () -> {
      LoneSeats x = hall("Hr15", "19 19 19");
      x.giveBack(1);
      due("party 2", x.party(2, 2), 1);
      due("party 3", x.party(3, 2), 2);
      due("takings", x.count(8), 1);
      LoneSeats y = hall("Hr15r999", "19 18");
      y.ask(2, 9);
      // Party 2 cannot pay row 1 and is let in where party 1 was; party 3 has row 1.
      due("party 2 waits", y.party(2, 2), 2);
      y.giveBack(1);
      due("party 2 has row 0", y.party(2, 3), 0);
    });
    test(10, "Returns what it gets back", () -> {
      due("the most, 6 * 9", hall("Hr9555555", "69").giveBack(1), 54);
      due("the least, 1 * 1", hall("Hr15", "19").giveBack(1), 1);
    });
  }

  private static void giveBackRefused() {
    test(10, "UNKNOWN if there is no such party", () -> {
      LoneSeats x = hall("Hr15", "19");
      for (int p : new int[] {0, 2, 30, 31, -1, LEAST, MOST}) due("giveBack(" + p + ")", x.giveBack(p), UNKNOWN);
      due("giveBack(31) of 30", thirty().giveBack(31), UNKNOWN);
      due("giveBack(30) of 30", thirty().giveBack(30), 1);
    });
    test(10, "STATE if it is not seated.", () -> {
      LoneSeats x = hall("Hr15", "19 29 39");
      due("it waits", x.giveBack(2), STATE);
      x.leave(3);
      due("it has left", x.giveBack(3), STATE);
      due("it is seated", x.giveBack(1), 1);
      due("it is gone", x.giveBack(1), STATE);
    });
  }

  private static void leave() {
    test(11, "Removes a waiting party from the queue.", () -> {
      int[][] rest = {{2, 3, 4, 5}, {1, 3, 4, 5}, {1, 2, 4, 5}, {1, 2, 3, 5}, {1, 2, 3, 4}};
      for (int p = 1; p <= 5; p++) {
        LoneSeats x = fiveWaiting();
        due("leave(" + p + ")", x.leave(p), 4);
        for (int i = 0; i < 4; i++) due("waits(" + i + ")", x.waits(i), rest[p - 1][i]);
        due("waits(4)", x.waits(4), NONE);
        due("the next one stands at the end", x.ask(3, 9), 6);
        due("waits(4)", x.waits(4), 6);
      }
      LoneSeats x = hall("Hr2123", "29 19 69");
      due("there is a place for party 1", x.best(2, 9, 0), 0);
      x.leave(3);
      due("but nobody is let in by leave()", x.party(1, 2), 2);
    });
    test(11, "It is gone.", () -> {
      LoneSeats x = fiveWaiting();
      x.leave(5);
      due("party(5, 2)", x.party(5, 2), 0);
      due("party(5, 3)", x.party(5, 3), NONE);
      due("takings", x.count(8), 0);
    });
    test(11, "Returns how many parties wait then", () -> {
      LoneSeats x = fiveWaiting();
      for (int p = 1; p <= 5; p++) due("leave(" + p + ")", x.leave(p), 5 - p);
    });
    test(11, "UNKNOWN if there is no such party", () -> {
      LoneSeats x = hall("Hr15", "19 19");
      for (int p : new int[] {0, 3, 30, 31, -1, NONE, LEAST, MOST}) due("leave(" + p + ")", x.leave(p), UNKNOWN);
      due("leave(0) of no parties", new LoneSeats().leave(0), UNKNOWN);
      due("leave(1) of no parties", new LoneSeats().leave(1), UNKNOWN);
    });
    test(11, "STATE if it does not wait.", () -> {
      LoneSeats x = hall("Hr15", "19 29 39");
      due("it is seated", x.leave(1), STATE);
      due("it waits", x.leave(3), 1);
      due("it has left", x.leave(3), STATE);
      x.giveBack(1);
      due("it is gone", x.leave(1), STATE);
    });
  }

  private static void shiftPlace() {
    test(12, "Moves a seated party to a better place.", () -> {
      LoneSeats x = hall("Hr15r45r65r97", "19");
      due("it has the best place", x.party(1, 3), 3);
      due("the others are worse", x.shift(1), STATE);
      LoneSeats y = hall("Hr14|4r95|5r16|6r17|7", "11 11 11");
      due("party 3 has row 2", y.party(3, 3), 2);
      y.giveBack(1);
      due("by one", y.shift(3), 1);
      due("to where party 1 was", y.party(3, 3) * 10 + y.party(3, 4), 30);
    });
    test(12, "The best place for its size and limit is determined as if its own seats were free", () -> {
      LoneSeats x = hall("Hr1012", "11 21");
      x.giveBack(1);
      due("no other place for two", x.best(2, 9, 0), NONE);
      due("shift(2) by one seat", x.shift(2), 2);
      due("its first seat", x.party(2, 4), 1);
      LoneSeats y = hall("Hr14|4r95|5", "12");
      y.price(1, 3);
      due("the price above its limit", y.shift(1), STATE);
      y.price(1, 2);
      due("the price at its limit", y.shift(1), 1);
      LoneSeats z = hall("Hr14r95r15r15", "14");
      z.price(2, 9);
      due("party 1 has row 2", z.party(1, 3), 2);
      z.price(3, 9);
      due("only its own row is too dear now, and the cheap one is worse", z.shift(1), STATE);
      LoneSeats w = hall("Hr14|4r95r95r95", "12");
      w.price(3, 2);
      w.price(2, 1);
      due("of equal ones the cheapest", w.shift(1), 1);
      due("its row", w.party(1, 3), 2);
    });
  }

  private static void shiftLone() {
    test(12, "but the number of lone seats must not be greater, with the new seats taken and its own ones free,"
        + " than it is now.", () -> {
      LoneSeats x = hall("Hr1012", "11 21");
      x.giveBack(1);
      due("lone seats now", x.count(6), 1);
      due("as many", x.shift(2), 2);
      due("lone seats then", x.count(6), 1);
      LoneSeats more = hall("Hr155r9999", "23");
      more.price(1, 3);
      due("one more, where it goes", more.shift(1), STATE);
      LoneSeats own = hall("Hr15r999", "19");
      due("more, its own one too", own.shift(1), STATE);
      LoneSeats left = hall("Hr15r96", "11");
      left.price(1, 1);
      due("its own one is lone then, the other not any more", left.shift(1), 1);
      due("lone seats then", left.count(6), 1);
      LoneSeats where = hall("Hr15r9999", "12");
      where.price(1, 2);
      due("one more, where it was, none where it goes", where.shift(1), STATE);
      LoneSeats less = hall("Hr1555r99", "12");
      less.price(1, 2);
      due("one less", less.shift(1), 4);
      due("lone seats then", less.count(6), 0);
    });
  }

  private static void shiftMove() {
    test(12, "If the quality of this place is greater than that of the party's own seats, it takes the new seats,"
        + " and its own ones are free, as far as it does not take them again.", () -> {
      LoneSeats x = hall("Hr1012", "11 21");
      x.giveBack(1);
      x.shift(2);
      due("the free seats", x.row(0, 3), 1);
      int[] takers = {0, 2, 2};
      for (int s = 0; s < 3; s++) due("seat(0, " + s + ", 2)", x.seat(0, s, 2), takers[s]);
      LoneSeats y = hall("Hr14|4r95|5", "12");
      y.price(1, 2);
      y.shift(1);
      due("its old seat is free", y.row(0, 3), 3);
      due("its new seat is taken", y.row(1, 3), 2);
      due("its row", y.party(1, 3), 1);
      due("its first seat", y.party(1, 4), 0);
      due("size and limit stay", y.party(1, 0) * 10 + y.party(1, 1), 12);
      LoneSeats z = hall("Hr15555r95r95r9000000009", "12");
      z.price(3, 2);
      due("to the last seat of the last row", z.shift(1), 4);
      due("its row", z.party(1, 3), 3);
      due("its first seat", z.party(1, 4), 8);
    });
    test(12, "Nothing is paid.", () -> {
      LoneSeats x = hall("Hr14|4r95|5", "12");
      x.price(1, 2);
      x.fee(9);
      x.shift(1);
      due("what it paid", x.party(1, 5), 1);
      due("takings", x.count(8), 1);
    });
    test(12, "Then others are let in.", () -> {
      LoneSeats x = hall("Hr14|4r95|5", "13 13 11");
      x.price(1, 3);
      due("party 3 waits", x.party(3, 2), 2);
      due("shift(1)", x.shift(1), 1);
      due("party 3 has its place", x.seat(0, 0, 2), 3);
      due("nobody waits", x.count(3), 0);
      due("takings", x.count(8), 3);
      LoneSeats y = hall("Hr2123", "29 19");
      due("a refused shift() lets nobody in", y.shift(2), STATE);
      due("party 1 waits", y.party(1, 2), 2);
    });
  }

  private static void shiftRefused() {
    test(12, "Returns by how much the quality is greater", () -> {
      LoneSeats x = hall("Hr1000000r9999999", "62");
      x.price(1, 2);
      due("the most", x.shift(1), 54);
      LoneSeats y = hall("Hr1000000r9000001", "62");
      y.price(1, 2);
      due("the least", y.shift(1), 1);
    });
    test(12, "UNKNOWN if there is no such party", () -> {
      LoneSeats x = hall("Hr15", "19");
      for (int p : new int[] {0, 2, 30, 31, -1, LEAST, MOST}) due("shift(" + p + ")", x.shift(p), UNKNOWN);
    });
    test(12, "STATE if it is not seated, or there is no place with a greater quality.", () -> {
      LoneSeats x = hall("Hr15", "19 29 39");
      due("it waits", x.shift(2), STATE);
      x.leave(3);
      due("it has left", x.shift(3), STATE);
      due("only its own place", x.shift(1), STATE);
      x.price(0, 9);
      due("its own row at its limit", x.shift(1), STATE);
      x.giveBack(1);
      due("it is gone", x.shift(1), STATE);
      LoneSeats equal = hall("Hr155r955", "29");
      equal.price(1, 1);
      due("an equal one", equal.shift(1), STATE);
      LoneSeats cheaper = hall("Hr955r955", "29");
      cheaper.price(1, 1);
      due("an equal and cheaper one", cheaper.shift(1), STATE);
      LoneSeats worse = hall("Hr166r155", "29");
      due("a worse one", worse.shift(1), STATE);
      LoneSeats no = hall("Hr15", "11");
      no.price(0, 2);
      due("not even its own place is a place any more", no.shift(1), STATE);
      due("it stays", no.seat(0, 0, 2), 1);
      LoneSeats zero = hall("Hr10", "11");
      zero.price(0, 2);
      due("no place, and the own quality is 0", zero.shift(1), STATE);
    });
  }

  private static void price() {
    test(13, "Sets the price of a row.", () -> {
      LoneSeats x = hall(SINGLES);
      for (int r = 0; r < 4; r++) due("price(" + r + ", 9)", x.price(r, 9 - r), 1);
      for (int r = 0; r < 4; r++) due("row(" + r + ", 0)", x.row(r, 0), 9 - r);
    });
    test(13, "What parties have paid does not change.", () -> {
      LoneSeats x = hall("Hr5555", "39");
      x.price(0, 1);
      due("paid", x.party(1, 5), 15);
      due("takings", x.count(8), 15);
      x.price(0, 9);
      due("paid", x.party(1, 5), 15);
      due("a party stays above its limit", x.party(1, 2), 1);
      LoneSeats y = hall("Hr15", "11");
      y.price(0, 9);
      due("even far above", y.party(1, 2), 1);
    });
    test(13, "Then others are let in.", () -> {
      LoneSeats x = hall("Hr95", "13 14");
      x.price(0, 5);
      due("still above both limits", x.count(3), 2);
      x.price(0, 4);
      due("at the limit of party 2", x.party(2, 5), 4);
      due("party 1 waits", x.waits(0), 1);
      LoneSeats y = hall("Hr2123", "29 19");
      due("price(0, 2), the same", y.price(0, 2), 2);
      due("lets in too", y.party(1, 2), 1);
      due("takings", y.count(8), 6);
      LoneSeats z = hall("Hr2123", "29 19");
      z.price(0, 9);
      due("a higher price lets in too, at that price", z.party(1, 5), 18);
    });
    test(13, "`v`: the new price, 1 to 9", () -> {
      LoneSeats x = hall("Hr55");
      due("price(0, 1)", x.price(0, 1), 5);
      due("price(0, 9)", x.price(0, 9), 1);
      due("row(0, 0)", x.row(0, 0), 9);
    });
    test(13, "Returns the previous price", () -> {
      LoneSeats x = hall("Hr15r95");
      due("price(0, 9)", x.price(0, 9), 1);
      due("price(1, 1)", x.price(1, 1), 9);
      due("price(0, 9), the same", x.price(0, 9), 9);
    });
    test(13, "UNKNOWN if there is no such row", () -> {
      LoneSeats x = hall("Hr15r15");
      for (int r : new int[] {-1, 2, 3, 4, LEAST, MOST}) due("price(" + r + ", 5)", x.price(r, 5), UNKNOWN);
      due("the fifth of four", hall(SINGLES).price(4, 5), UNKNOWN);
    });
    test(13, "OUTSIDE if v is out of range.", () -> {
      LoneSeats x = hall("Hr15");
      for (int v : new int[] {0, 10, -1, LEAST, MOST}) due("price(0, " + v + ")", x.price(0, v), OUTSIDE);
      due("row(0, 0)", x.row(0, 0), 1);
    });
  }

  private static void fee() {
    test(14, "Sets the fee.", () -> {
      LoneSeats x = hall("Hr2123", "29 19");
      x.fee(9);
      due("count(7)", x.count(7), 9);
      due("there is a place for party 1", x.best(2, 9, 0), 0);
      due("but nobody is let in by fee()", x.party(1, 2), 2);
      due("takings", x.count(8), 2);
    });
    test(14, "`v`: the new fee, 0 to 9", () -> {
      LoneSeats x = new LoneSeats();
      due("fee(9)", x.fee(9), 0);
      due("count(7)", x.count(7), 9);
      due("fee(0)", x.fee(0), 9);
      due("count(7)", x.count(7), 0);
    });
    test(14, "Returns the previous fee", () -> {
      LoneSeats x = new LoneSeats();
      for (int v = 0; v <= 9; v++) due("fee(" + v + ")", x.fee(v), Math.max(0, v - 1));
    });
    test(14, "OUTSIDE if v is out of range.", () -> {
      LoneSeats x = new LoneSeats();
      for (int v : new int[] {-1, 10, LEAST, MOST}) due("fee(" + v + ")", x.fee(v), OUTSIDE);
      due("count(7)", x.count(7), 0);
    });
  }

  private static void undo() {
    test(15, "Returns how many acts can still be undone", () -> {
      LoneSeats x = new LoneSeats();
      for (int i = 0; i < 15; i++) x.fee(1);
      for (int i = 13; i >= 0; i--) due("undo()", x.undo(), i);
    });
    test(15, "STATE if none can be undone.", () -> {
      due("of a new object", new LoneSeats().undo(), STATE);
      due("of a new hall", hall("Hr15").undo(), STATE);
      LoneSeats x = new LoneSeats();
      x.fee(5);
      due("undo()", x.undo(), 0);
      due("undo() again", x.undo(), STATE);
      due("an undo() is no act that could be undone", x.count(7), 0);
      x.ask(0, 0);
      due("after an error", x.undo(), STATE);
      LoneSeats y = hall("Hr15", "19");
      y.hall();
      due("after hall()", y.undo(), STATE);
      y.fee(1);
      y.keep(0);
      y.again(0);
      due("after again()", y.undo(), STATE);
    });
  }

  private static final String BEFORE = "Undoes the latest act: parties, seats, queue, prices, fee and takings are"
      + " as they were before it.";

  /** After this act and undo() all is as it was. */
  private static void undone(String name, java.util.function.ToLongFunction<LoneSeats> act) {
    due(name + " is done", act.applyAsLong(busy()) >= 0 ? 1 : 0, 1);
    unchanged(name + " and undo()", Edges::busy, x -> {
      act.applyAsLong(x);
      due("undo() of " + name, x.undo(), 8);
    });
  }

  private static void undoRestores() {
    test(15, BEFORE, () -> {
      undone("ask(3, 9), seated", x -> x.ask(3, 9));
      undone("ask(6, 1), waiting", x -> x.ask(6, 1));
      undone("giveBack(1), party 3 is let in", x -> x.giveBack(1));
      undone("giveBack(4)", x -> x.giveBack(4));
      undone("leave(3), the first", x -> x.leave(3));
      undone("leave(5), the last", x -> x.leave(5));
      undone("price(0, 1), party 5 may be let in", x -> x.price(0, 1));
      undone("price(2, 9)", x -> x.price(2, 9));
      undone("fee(0)", x -> x.fee(0));
    });
    test(15, BEFORE, () -> {
      LoneSeats x = hall("Hr14|4r95|5", "13 13 11");
      x.price(1, 3);
      String before = looks(x);
      due("shift(1)", x.shift(1), 1);
      due("undo()", x.undo(), 4);
      same("after shift() and undo() the hall", looks(x), before);
      due("party 1 has its seat", x.seat(0, 0, 2), 1);
      due("it is not free", x.row(0, 3), 0);
      due("party 3 waits", x.waits(0), 3);
      LoneSeats y = hall("Hr14|4r95|5", "13 13 11");
      y.price(1, 3);
      y.shift(1);
      y.undo();
      LoneSeats z = hall("Hr14|4r95|5", "13 13 11");
      z.price(1, 3);
      same("the parties", people(y), people(z));
    });
    test(15, BEFORE, () -> {
      LoneSeats x = thirty();
      for (int i = 0; i < 14; i++) x.undo();
      due("seven undone returns and sales", x.count(2), 23);
      due("party 23 is seated", x.party(23, 2), 1);
      due("party 24 has not asked", x.party(24, 2), UNKNOWN);
      x.ask(6, 2);
      due("another party 24", x.party(24, 0), 6);
      due("its limit", x.party(24, 1), 2);
      due("it waits", x.waits(0), 24);
    });
    test(15, BEFORE, () -> {
      LoneSeats x = hall("Hr2123", "29 19");
      x.fee(3);
      x.undo();
      due("nobody is let in by undo()", x.party(1, 2), 2);
    });
  }
}
