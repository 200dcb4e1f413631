/** The boundary cases of the promises 16 to 19: places and judgements. */
final class PlaceEdges extends Edges {
  static void all() {
    best();
    room();
    waits();
    judgeNumber();
    judgeAsk();
    judgeGiveBack();
    judgePrice();
    judgeTruths();
    judgeCopy();
    judgeWrong();
  }

  private static void best() {
    test(16, "Looks for places for a size and a limit.", () -> {
      unchanged("best(3, 9, 0)", Edges::busy, x -> x.best(3, 9, 0));
      unchanged("best(3, 9, 2)", Edges::busy, x -> x.best(3, 9, 2));
    });
    test(16, "0 for the best place, as 10 * row + first seat", () -> {
      due("the first seat of the first row", hall("Hr15").best(1, 9, 0), 0);
      due("the last seat of the last row", hall("Hr10r10r10r1000000009").best(1, 9, 0), 38);
      due("the last seat of the first row", hall("Hr1000000009r10").best(1, 9, 0), 8);
      due("the first seat of the last row", hall("Hr10r10r10r19").best(1, 9, 0), 30);
    });
    test(16, "1 for its quality", () -> {
      due("0 is a quality", hall("Hr10").best(1, 9, 1), 0);
      due("the greatest", hall("Hr10r10r10r9000999999").best(6, 9, 1), 54);
    });
    test(16, "2 for the number of places", () -> {
      due("none", hall("Hr1555").best(2, 9, 2), 0);
      due("one", hall("Hr155").best(2, 9, 2), 1);
      due("all seats", hall(SINGLES).best(1, 9, 2), 36);
      due("without rows", new LoneSeats().best(1, 9, 2), 0);
      due("those of the rows that are not too dear", hall("Hr15|5r55|5r95|5").best(1, 5, 2), 4);
    });
    test(16, "NONE for 0 and 1 if there is no place", () -> {
      LoneSeats x = hall("Hr1555");
      due("best(2, 9, 0)", x.best(2, 9, 0), NONE);
      due("best(2, 9, 1)", x.best(2, 9, 1), NONE);
      due("best(2, 9, 2)", x.best(2, 9, 2), 0);
      due("best(6, 1, 0) without rows", new LoneSeats().best(6, 1, 0), NONE);
    });
    test(16, "OUTSIDE if an argument is out of range.", () -> {
      int[][] bad = {{0, 1, 0}, {7, 1, 0}, {1, 0, 0}, {1, 10, 0}, {1, 1, -1}, {1, 1, 3}, {0, 1, 2}, {7, 1, 2},
          {1, 0, 2}, {1, 10, 2}, {LEAST, 1, 0}, {MOST, 1, 0}, {1, LEAST, 0}, {1, MOST, 0}, {1, 1, LEAST}, {1, 1, MOST}};
      LoneSeats x = hall("Hr1555555");
      for (int[] b : bad) {
        due("best(" + b[0] + ", " + b[1] + ", " + b[2] + ")", x.best(b[0], b[1], b[2]), OUTSIDE);
      }
      due("best(6, 1, 0)", x.best(6, 1, 0), 0);
      due("best(1, 9, 2)", x.best(1, 9, 2), 4);
    });
    test(16, "`size`: the size, 1 to 6", () -> {
      LoneSeats x = hall("Hr1555555555");
      int[] places = {2 + 5, 2 + 4, 2 + 3, 2 + 2, 2 + 1, 2};
      for (int size = 1; size <= 6; size++) {
        due("best(" + size + ", 1, 2)", x.best(size, 1, 2), places[size - 1]);
        due("best(" + size + ", 1, 1)", x.best(size, 1, 1), 5 * size);
      }
    });
    test(16, "`limit`: the limit, 1 to 9", () -> {
      LoneSeats x = hall("Hr15r35r55r95");
      int[] places = {1, 1, 2, 2, 3, 3, 3, 3, 4};
      for (int limit = 1; limit <= 9; limit++) {
        due("best(1, " + limit + ", 2)", x.best(1, limit, 2), places[limit - 1]);
      }
    });
  }

  private static void room() {
    test(17, "Counts how many parties of a size, all with the limit 9, could be seated one after another, each at"
        + " the best place at that moment, until there is no place.", () -> {
      due("without rows", new LoneSeats().room(1), 0);
      due("one seat", hall("Hr15").room(1), 1);
      due("two seats of one block, a lone one would be left", hall("Hr155").room(1), 0);
      due("three seats of one block", hall("Hr1555").room(1), 1);
      due("a taken seat", hall("Hr15", "19").room(1), 0);
      due("all 36 seats, more than 30 parties", hall(SINGLES).room(1), 36);
      due("31 seats", hall("H" + "r15|5|5|5|5|5|5|5|5".repeat(3) + "r15|5|5|5").room(1), 31);
      due("the price 9", hall("Hr9555555").room(6), 1);
      due("two blocks of six and one of five", hall("Hr1555555r1555555r155555").room(6), 2);
      // The best place for two is in the middle, 2 and 3; it leaves two on each side.
      due("the best place at each moment", hall("Hr1009900").room(2), 3);
      // The best place for three of seven seats is 2 to 4, which leaves no room for others.
      due("even if another one would leave more room", hall("Hr10099900").room(3), 1);
      due("where it is not so", hall("Hr1999000").room(3), 2);
      due("also after 30 parties", roomAfterThirty(), 1);
      due("those that wait take no part", hall("Hr155", "39 39 39 39 39").room(2), 1);
    });
    test(17, "`size`: the size, 1 to 6", () -> {
      LoneSeats x = hall("H" + "r9555555".repeat(4));
      int[] want = {16, 12, 8, 4, 0, 4};
      for (int size = 1; size <= 6; size++) due("room(" + size + ")", x.room(size), want[size - 1]);
    });
    test(17, "Nothing is changed.", () -> {
      for (int size = 1; size <= 6; size++) {
        int n = size;
        unchanged("room(" + size + ")", Edges::busy, x -> x.room(n));
      }
    });
    test(17, "OUTSIDE if size is out of range.", () -> {
      LoneSeats x = hall("Hr1555555555");
      for (int size : new int[] {0, 7, -1, LEAST, MOST}) due("room(" + size + ")", x.room(size), OUTSIDE);
      due("room(1)", x.room(1), 7);
      due("room(6)", x.room(6), 1);
    });
  }

  private static int roomAfterThirty() {
    LoneSeats x = thirty();
    x.giveBack(30);
    return x.room(1);
  }

  private static void waits() {
    test(18, "`place`: the position in the queue, from 0", () -> {
      LoneSeats x = fiveWaiting();
      for (int i = 0; i < 5; i++) due("waits(" + i + ")", x.waits(i), i + 1);
    });
    test(18, "NONE if there is no such position (also if place is negative).", () -> {
      LoneSeats x = fiveWaiting();
      for (int i : new int[] {5, 6, -1, -2, NONE, LEAST, MOST}) due("waits(" + i + ")", x.waits(i), NONE);
      x.leave(5);
      due("waits(4) when the last has left", x.waits(4), NONE);
      due("waits(3)", x.waits(3), 4);
      due("waits(0) when nobody waits", new LoneSeats().waits(0), NONE);
      due("waits(-1) when nobody waits", new LoneSeats().waits(-1), NONE);
    });
  }

  private static void judgeNumber() {
    test(19, "`n`: the number of statements, 1 to 4", () -> {
      LoneSeats x = new LoneSeats();
      due("judge(1, 500)", x.judge(1, 500L), NONE);
      due("judge(2, 500500)", x.judge(2, 500500L), NONE);
      due("judge(3, 500500500)", x.judge(3, 500500500L), NONE);
      due("judge(4, 500500500500)", x.judge(4, 500500500500L), NONE);
    });
    test(19, "OUTSIDE if n or row is out of range.", () -> {
      LoneSeats x = new LoneSeats();
      for (int n : new int[] {0, 5, -1, LEAST, MOST}) due("judge(" + n + ", 0)", x.judge(n, 0), OUTSIDE);
      long power = 1;
      for (int n = 1; n <= 4; n++) {
        power *= 1000;
        due("the least with too many digits for " + n, x.judge(n, power), OUTSIDE);
        due("the greatest for " + n, x.judge(n, power - 1), 0);
        due("0 for " + n, x.judge(n, 0), 0);
        due("-1 for " + n, x.judge(n, -1), OUTSIDE);
        due("the least long for " + n, x.judge(n, Long.MIN_VALUE), OUTSIDE);
        due("the greatest long for " + n, x.judge(n, Long.MAX_VALUE), OUTSIDE);
      }
      due("500 and 2^32 for 1", x.judge(1, (1L << 32) + 500), OUTSIDE);
    });
    test(19, "`row`: the number, 0 or more, of at most 3 * n digits", () -> {
      LoneSeats x = hall("Hr15");
      due("0", x.judge(4, 0), 0);
      due("one digit", x.judge(1, 9), 0);
      due("three digits", x.judge(1, 501), NONE);
      due("four digits", x.judge(1, 1501), OUTSIDE);
      due("four digits for two", x.judge(2, 1501), 0);
      due("six digits", x.judge(2, 501501), NONE);
      due("seven digits", x.judge(2, 1501501), OUTSIDE);
      due("nine digits", x.judge(3, 501501501), NONE);
      due("ten digits, above all ints", x.judge(3, 4501501501L), OUTSIDE);
      due("twelve digits", x.judge(4, 719719719719L), NONE);
      due("thirteen digits", x.judge(4, 1719719719719L), OUTSIDE);
      due("-1", x.judge(4, -1), OUTSIDE);
      due("a right one, but negative", x.judge(1, -501), OUTSIDE);
    });
    test(19, "With the digits of a statement being k, a and b, and ab the number 10 * a + b, the statements are:",
        () -> {
          LoneSeats x = hall(SINGLES);
          for (int p = 1; p <= 12; p++) x.ask(1, 9);
          due("24 are free", x.judge(1, 524), NONE);
          due("42 are not", x.judge(1, 542), 0);
          due("party 12 is seated", x.judge(1, 612), NONE);
          due("party 21 is not there", x.judge(1, 621), 0);
          due("party 10 gives back", x.judge(2, 210610), 1);
          due("party 1 does not", x.judge(2, 210601), NONE);
        });
    test(19, "written as a decimal number of 3 * n digits (leading zeros included), three digits for each"
        + " statement, the first one most significant.", () -> {
      LoneSeats x = hall("Hr15", "19");
      due("leading zeros make the first statement 000", x.judge(2, 601), 0);
      due("the first one of three", x.judge(3, 601601), 0);
      due("one digit", x.judge(1, 6), 0);
      due("the first is right, the second wrong", x.judge(2, 601600), 1);
      due("the first is wrong, the second right", x.judge(2, 600601), 0);
      due("nines behind", x.judge(4, 500999999999L), 1);
      due("zeros behind", x.judge(4, 500000000000L), 1);
      due("the order counts: return, then one is free", x.judge(2, 201501), NONE);
      due("the other way round", x.judge(2, 501201), 0);
    });
    test(19, "Returns the index of the first wrong statement", () -> {
      LoneSeats x = hall("Hr15", "19");
      due("the first", x.judge(4, 501500500500L), 0);
      due("the second", x.judge(4, 500501501500L), 1);
      due("the third", x.judge(4, 500500501500L), 2);
      due("the fourth", x.judge(4, 500500500501L), 3);
      due("the last of two", x.judge(2, 500501L), 1);
    });
    test(19, "NONE if there is none", () -> due("all are right", hall("Hr15", "19").judge(4, 500601500601L), NONE));
  }

  private static void judgeAsk() {
    test(19, "k = 1: a new party of size a and limit b asks and is seated at once", () -> {
      LoneSeats x = hall("Hr9555555");
      due("size 6, limit 9", x.judge(1, 169), NONE);
      due("size 7", x.judge(1, 179), 0);
      due("size 0", x.judge(1, 109), 0);
      due("limit 0", x.judge(1, 160), 0);
      due("a limit below the price", x.judge(1, 168), 0);
      due("size 1, limit 9", x.judge(1, 119), NONE);
      due("size 5, it would leave a lone seat", x.judge(1, 159), 0);
      due("the new party has the next number", x.judge(2, 169601), NONE);
      due("it has taken its seats", x.judge(2, 169500), NONE);
      due("it does not wait: the second has no place", x.judge(2, 169169), 1);
      due("price 1, limit 1", hall("Hr15").judge(1, 111), NONE);
      for (int size = 7; size <= 9; size++) {
        due("size " + size + " of nine seats", hall("Hr1555555555").judge(1, 109 + 10 * size), 0);
        due("a place for size " + size, hall("Hr1555555555").judge(1, 709 + 10 * size), 0);
      }
      LoneSeats last = hall("Hr15r15r15r19");
      due("in the last row", last.judge(4, 119119119119L), NONE);
      LoneSeats five = fiveWaiting();
      due("with five waiting and a place", five.judge(2, 129606), NONE);
      due("with five waiting and none", five.judge(1, 139), 0);
      LoneSeats thirty = thirty();
      thirty.giveBack(30);
      due("there is a place after 30 parties", thirty.judge(1, 719), NONE);
      due("but nobody can ask", thirty.judge(1, 119), 0);
      thirty.undo();
      thirty.undo();
      due("as the 30th", thirty.judge(1, 119), NONE);
      due("as the 31st", thirty.judge(3, 119230119), 2);
    });
  }

  private static void judgeGiveBack() {
    test(19, "k = 2: party ab gives its seats back (it must be seated)", () -> {
      LoneSeats x = hall("Hr15", "19 29");
      due("it is seated", x.judge(2, 201501), NONE);
      due("it waits", x.judge(1, 202), 0);
      due("there is none", x.judge(1, 203), 0);
      due("party 0", x.judge(1, 200), 0);
      due("party 99", x.judge(1, 299), 0);
      due("twice", x.judge(2, 201201), 1);
      due("party 30", thirty().judge(1, 230), NONE);
      due("party 29, it is gone", thirty().judge(1, 229), 0);
      due("party 10, not 1 and 0", hall("Hr15", "19").judge(1, 210), 0);
      LoneSeats y = hall("Hr15", "19 19");
      due("then others are let in", y.judge(3, 201602500), NONE);
    });
  }

  private static void judgePrice() {
    test(19, "k = 3: the price of row a becomes b, 1 to 9", () -> {
      LoneSeats x = hall("Hr15r25");
      due("the lowest", x.judge(1, 301), NONE);
      due("the highest", x.judge(1, 319), NONE);
      due("0", x.judge(1, 300), 0);
      due("a row that is not there", x.judge(1, 321), 0);
      due("row 9", x.judge(1, 391), 0);
      due("without rows", new LoneSeats().judge(1, 301), 0);
      due("row 3 of four", hall(SINGLES).judge(1, 335), NONE);
      due("row 4 of four", hall(SINGLES).judge(1, 345), 0);
      due("too dear then", x.judge(3, 303313712), 2);
      due("dear enough", x.judge(3, 303313713), NONE);
      LoneSeats y = hall("Hr95", "11");
      due("then others are let in", y.judge(2, 301601), NONE);
      due("at their limit only", y.judge(2, 302601), 1);
    });
  }

  private static void judgeTruths() {
    test(19, "k = 4: seat b of row a is lone", () -> {
      LoneSeats x = hall("Hr155|5r10r10r100000000|0", "19");
      // Party 1 has seat 2 of row 0.
      due("seat 2 of row 0 is taken", x.judge(1, 402), 0);
      due("seat 0 of row 0 is not alone", x.judge(1, 400), 0);
      due("seat 8 of row 3", x.judge(1, 438), NONE);
      due("seat 7 of row 3", x.judge(1, 437), 0);
      due("seat 9 of row 3", x.judge(1, 439), 0);
      due("seat 0 of row 2", x.judge(1, 420), NONE);
      due("seat 1 of row 2", x.judge(1, 421), 0);
      due("row 4", x.judge(1, 440), 0);
      due("when given back", x.judge(2, 201402), NONE);
    });
    test(19, "k = 5: exactly ab seats are free", () -> {
      due("0", new LoneSeats().judge(1, 500), NONE);
      LoneSeats x = hall(SINGLES);
      due("36", x.judge(1, 536), NONE);
      due("35", x.judge(1, 535), 0);
      due("37", x.judge(1, 537), 0);
      due("99", x.judge(1, 599), 0);
      due("one less then", x.judge(2, 119535), NONE);
    });
    test(19, "k = 6: party ab is seated", () -> {
      due("party 1", hall("Hr15", "19").judge(1, 601), NONE);
      due("party 0", hall("Hr15", "19").judge(1, 600), 0);
      due("party 2, there is none", hall("Hr15", "19").judge(1, 602), 0);
      due("it waits", hall("Hr15", "29").judge(1, 601), 0);
      due("party 30", thirty().judge(1, 630), NONE);
      due("party 31", thirty().judge(1, 631), 0);
      due("it is gone", thirty().judge(1, 629), 0);
      due("party 99", thirty().judge(1, 699), 0);
    });
    test(19, "k = 7: there is a place for size a and limit b", () -> {
      LoneSeats x = hall("Hr10r10r10r9555555555");
      due("size 6, limit 9", x.judge(1, 769), NONE);
      due("size 7", x.judge(1, 779), 0);
      due("size 0", x.judge(1, 709), 0);
      due("limit 0", x.judge(1, 710), 0);
      due("limit 1", x.judge(1, 711), NONE);
      due("size 6, limit 8", x.judge(1, 768), 0);
      due("a lone seat would be left", hall("Hr1555").judge(1, 729), 0);
      due("after 30 parties there may be one", thirty().judge(2, 230719), NONE);
    });
  }

  private static void judgeCopy() {
    test(19, "The first three are carried out on a copy, like ask(), giveBack() and price(), beginning with the"
        + " present state; the others are checked on this copy at their moment.", () -> {
      unchanged("judge(4, 301)", Edges::busy, x -> due("judge()", x.judge(4, 301201129606L), NONE));
      unchanged("judge(4, 204)", Edges::busy, x -> due("judge()", x.judge(4, 204119606319L), NONE));
      unchanged("judge(2, 201000)", Edges::busy, x -> due("judge()", x.judge(2, 201000L), 1));
      LoneSeats x = hall("Hr15", "19");
      due("the first time", x.judge(2, 201501), NONE);
      due("the copy begins anew", x.judge(1, 500), NONE);
      due("at its moment", x.judge(4, 500201501119L), NONE);
      x.giveBack(1);
      due("with the present state", x.judge(1, 501), NONE);
    });
  }

  private static void judgeWrong() {
    test(19, "A statement with another k, one that names something that does not exist or is out of range, one"
        + " that cannot be carried out, or one that is not true is wrong.", () -> {
      LoneSeats x = hall("Hr15", "19");
      for (int ab = 0; ab <= 99; ab++) {
        for (int k : new int[] {0, 8, 9}) due("judge(1, " + (100 * k + ab) + ")", x.judge(1, 100 * k + ab), 0);
      }
      due("another k behind a right one", x.judge(2, 500800), 1);
      for (int row = 1; row <= 9; row++) {
        due("the price of row " + row, x.judge(1, 305 + 10 * row), 0);
        due("a lone seat of row " + row, x.judge(1, 400 + 10 * row), 0);
      }
      LoneSeats y = hall("Hr15", "19");
      for (int p = 2; p <= 99; p++) {
        due("a return of party " + p, y.judge(1, 200 + p), 0);
        due("party " + p + " seated", y.judge(1, 600 + p), 0);
      }
      due("it cannot be carried out", x.judge(1, 119), 0);
      due("it is not true", x.judge(1, 400), 0);
    });
  }
}
