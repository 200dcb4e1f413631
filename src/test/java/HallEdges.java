/** The boundary cases of the hall and of the promises 1 to 8. */
final class HallEdges extends Edges {
  static void all() {
    newObject();
    theHall();
    write();
    wipe();
    faultSigns();
    faultEnds();
    hallAnew();
    hallStays();
    row();
    seat();
    party();
  }

  private static void newObject() {
    test(1, "Creates a hall without rows.", () -> {
      LoneSeats x = new LoneSeats();
      for (int what = 0; what <= 10; what++) due("count(" + what + ")", x.count(what), 0);
      for (int what = 0; what <= 5; what++) due("row(0, " + what + ")", x.row(0, what), UNKNOWN);
      due("seat(0, 0, 0)", x.seat(0, 0, 0), UNKNOWN);
      due("price(0, 1)", x.price(0, 1), UNKNOWN);
      due("see(0, 0, 1)", x.see(0, 0, 1), UNKNOWN);
      due("share(0, 1, true)", x.share(0, 1, true), UNKNOWN);
      due("away(0, 0, 0, true)", x.away(0, 0, 0, true), UNKNOWN);
      due("best(1, 9, 0)", x.best(1, 9, 0), NONE);
      due("best(1, 9, 2)", x.best(1, 9, 2), 0);
      due("room(1)", x.room(1), 0);
      due("judge(1, 500), no seat is free", x.judge(1, 500), NONE);
      due("undo()", x.undo(), STATE);
      due("waits(0)", x.waits(0), NONE);
      due("party(1, 0)", x.party(1, 0), UNKNOWN);
      due("ask(1, 9), there is no place", x.ask(1, 9), 1);
      due("it waits", x.party(1, 2), 2);
      due("fee(9)", x.fee(9), 0);
      due("drawn(20)", x.drawn(20), 0);
    });
    test(1, "The text is empty, nothing was seen, the seed is 0, and both slots are empty.", () -> {
      LoneSeats x = new LoneSeats();
      due("fault()", x.fault(), 0);
      due("hall()", x.hall(), STATE);
      due("wipe()", x.wipe(), 0);
      due("which()", x.which(), 0);
      due("unsee()", x.unsee(), 0);
      due("seed(1)", x.seed(1), 0);
      due("again(0)", x.again(0), STATE);
      due("again(1)", x.again(1), STATE);
    });
  }

  private static void theHall() {
    test(5, "A hall has at most 4 rows; at first it has none.", () -> {
      due("rows at first", new LoneSeats().count(1), 0);
      due("hall() with four", written("Hr15r15r15r15").hall(), 4);
      due("hall() with five", written("Hr15r15r15r15r15").hall(), STATE);
    });
    test(5, "A row has a price, 1 to 9, and 1 to 9 seats; each seat has a view, 0 to 9, a number that is higher"
        + " for better seats.", () -> {
      LoneSeats x = hall("Hr10r9987654321");
      due("price 1", x.row(0, 0), 1);
      due("price 9", x.row(1, 0), 9);
      due("1 seat", x.row(0, 1), 1);
      due("9 seats", x.row(1, 1), 9);
      due("view 0", x.seat(0, 0, 0), 0);
      due("view 9", x.seat(1, 0, 0), 9);
      due("price 0", written("Hr05").hall(), STATE);
      due("no seat", written("Hr1").hall(), STATE);
      due("10 seats", written("Hr10123456789").hall(), STATE);
    });
    test(7, "Between two adjacent seats there can be an aisle.", () -> {
      LoneSeats x = hall("Hr155|5");
      due("seat(0, 0, 1)", x.seat(0, 0, 1), 0);
      due("seat(0, 1, 1)", x.seat(0, 1, 1), 1);
      due("before the first seat", written("Hr1|5").fault(), 3);
      due("after the last seat", written("Hr15|").fault(), 5);
      due("after the last seat of a row", written("Hr15|r15").fault(), 5);
      due("two in one place", written("Hr15||5").fault(), 5);
    });
    test(6, "A block is a longest possible sequence of adjacent seats of a row without an aisle between them.",
        () -> {
          LoneSeats x = hall("Hr1555555555r15|5|5|5|5|5|5|5|5r15r155|55");
          due("nine seats", x.row(0, 2), 1);
          due("nine seats, eight aisles", x.row(1, 2), 9);
          due("one seat", x.row(2, 2), 1);
          due("one aisle", x.row(3, 2), 2);
        });
    test(4, "A hall is described by a text of at most 80 characters, without blanks, with the grammar", () -> {
      String text = "Hr15|5r25";
      for (int i = 0; i <= text.length(); i++) {
        due("fault() with a blank at " + i,
            written(text.substring(0, i) + " " + text.substring(i)).fault(), i);
      }
      for (char blank : "\t\n\r\u0000\u00a0".toCharArray()) {
        due("fault() with the code " + (int) blank + " behind", written(text + blank).fault(), 9);
      }
    });
    test(4, "hall = \"H\" { row }", () -> {
      due("no row", written("H").fault(), NONE);
      due("no H", written("r15").fault(), 0);
      due("two of it", written("HHr15").fault(), 1);
      due("one behind", written("Hr15H").fault(), 4);
      due("a small one", written("hr15").fault(), 0);
    });
    test(4, "row = \"r\" price view { [ \"|\" ] view }", () -> {
      due("one view", written("Hr15").fault(), NONE);
      due("no view", written("Hr1r15").fault(), 3);
      due("no price", written("Hrr").fault(), 2);
      due("a great R", written("HR15").fault(), 1);
      due("views with and without aisles", written("Hr15|55|5").fault(), NONE);
    });
    test(4, "where price is a digit from 1 to 9, and each view is a digit, for one seat; \"|\" is an aisle.", () -> {
      for (char c = '0'; c <= '9'; c++) {
        due("the price " + c, written("Hr" + c + "5").fault(), c == '0' ? 2 : NONE);
        due("the view " + c, written("Hr1" + c).fault(), NONE);
        due("the second view " + c, hall("Hr15" + c).seat(0, 1, 0), c - '0');
      }
      for (char c : "/:".toCharArray()) {
        due("the price " + c, written("Hr" + c + "5").fault(), 2);
        due("the view " + c, written("Hr1" + c).fault(), 3);
      }
      due("two digits are two seats", hall("Hr199").row(0, 1), 2);
    });
    test(4, "There are at most 4 rows, and at most 9 seats in a row.", () -> {
      due("four rows", written("Hr15r15r15r15").fault(), NONE);
      due("the fifth", written("Hr15r15r15r15r15").fault(), 13);
      due("nine seats", written("Hr1555555555").fault(), NONE);
      due("the tenth", written("Hr15555555555").fault(), 12);
      due("nine seats in each of four rows", written("H" + "r1555555555".repeat(4)).fault(), NONE);
      due("a tenth in the last", written("H" + "r1555555555".repeat(4) + "5").fault(), 45);
      due("the tenth behind an aisle", written("Hr155555|5555|5").fault(), 13);
    });
  }

  private static void write() {
    test(2, "Appends a character to the text.", () -> {
      LoneSeats x = written("Hr1");
      x.write('5');
      due("fault(), it stands at the end", x.fault(), NONE);
      x.write('5');
      due("hall()", x.hall(), 1);
      due("two seats", x.row(0, 1), 2);
      LoneSeats y = written("H".repeat(79));
      due("write(114)", y.write('r'), 80);
      due("the first fault", y.fault(), 1);
    });
    test(2, "`letter`: its code, 0 to 255", () -> {
      for (int letter = 0; letter <= 255; letter++) {
        due("write(" + letter + ")", new LoneSeats().write(letter), 1);
      }
    });
    test(2, "Returns the new length of the text", () -> {
      LoneSeats x = new LoneSeats();
      for (int i = 1; i <= 80; i++) due("write(53)", x.write(53), i);
    });
    test(2, "OUTSIDE if letter is out of range", () -> {
      LoneSeats x = new LoneSeats();
      for (int letter : new int[] {-1, 256, 256 + 'H', -256 + 'H', LEAST, MOST}) {
        due("write(" + letter + ")", x.write(letter), OUTSIDE);
      }
      due("the length", x.count(0), 0);
    });
    test(2, "FULL if it has 80 characters.", () -> {
      LoneSeats x = written("H".repeat(79));
      due("with 79", x.write(72), 80);
      due("with 80", x.write(72), FULL);
      due("with 80, once more", x.write(0), FULL);
      due("the length", x.count(0), 80);
      due("wipe()", x.wipe(), 80);
      due("with 0 again", x.write(72), 1);
      due("the text", x.fault(), NONE);
    });
  }

  private static void wipe() {
    test(3, "Empties the text.", () -> {
      LoneSeats x = hall("Hr15");
      x.wipe();
      due("the length", x.count(0), 0);
      due("fault()", x.fault(), 0);
      due("hall()", x.hall(), STATE);
      due("the hall stays", x.count(1), 1);
      due("write(114)", x.write('r'), 1);
      due("nothing is before it", x.fault(), 0);
    });
    test(3, "Returns the length that it had.", () -> {
      due("of no text", new LoneSeats().wipe(), 0);
      due("of one sign", written("H").wipe(), 1);
      LoneSeats x = written("x".repeat(80));
      due("of the longest", x.wipe(), 80);
      due("and again", x.wipe(), 0);
    });
  }

  private static final String NO_PLACE = "Returns the index of the first character that cannot stand there in a"
      + " hall, given the characters before it";

  /** After this beginning just these signs can stand. */
  private static void canFollow(String begin, String signs) {
    for (int letter = 0; letter <= 255; letter++) {
      int fault = written(begin + (char) letter).fault();
      boolean fits = fault != begin.length();
      due("fault() of " + begin + " and the code " + letter + " fits", fits ? 1 : 0,
          signs.indexOf(letter) >= 0 ? 1 : 0);
    }
  }

  private static void faultSigns() {
    String digits = "0123456789";
    String eight = "r112345678";
    test(4, NO_PLACE, () -> {
      canFollow("", "H");
      canFollow("H", "r");
      canFollow("Hr", "123456789");
      canFollow("Hr9", digits);
      canFollow("Hr90", digits + "|r");
      canFollow("Hr90|", digits);
      canFollow("H" + eight, digits + "|r");
      canFollow("H" + eight + "|", digits);
      canFollow("H" + eight + "9", "r");
      canFollow("H" + eight + "|9", "r");
      canFollow("Hr15r15r15", digits + "|r");
      canFollow("Hr15r15r15r", "123456789");
      canFollow("Hr15r15r15r15", digits + "|");
      canFollow("Hr15r15r15r15|", digits);
      canFollow("Hr15r15r15" + eight, digits + "|");
      canFollow("Hr15r15r15" + eight + "9", "");
    });
    test(4, NO_PLACE, () -> {
      due("the first of two", written("Hr0x").fault(), 2);
      due("what follows a fault is not looked at", written("xHr15").fault(), 0);
      due("the last one", written("Hr15r15|5x").fault(), 9);
      due("of 80 signs the last but three", written(SINGLES + "rrr").fault(), 77);
    });
    test(4, "(whatever the limit of 80 characters)", () -> {
      due("the longest hall", written(SINGLES).fault(), NONE);
      due("its length", written(SINGLES).count(0), 77);
      due("a sign more", written(SINGLES + "5").fault(), 77);
      due("80 signs", written(SINGLES + "|5|").fault(), 77);
      due("79 signs that go wrong early", written("Hr1" + "5".repeat(76)).fault(), 12);
      due("80 signs that go wrong early", written("Hr1" + "5|".repeat(38) + "5").fault(), 20);
    });
  }

  private static void faultEnds() {
    test(4, "the length of the text if it ends too early (0 for the empty text)", () -> {
      due("of the empty text", new LoneSeats().fault(), 0);
      due("of a wiped one", written("").fault(), 0);
      for (String text : new String[] {"Hr", "Hr1", "Hr15|", "Hr15r", "Hr15r1", "Hr15r15|", "Hr15r15r15r",
          "Hr112345678|", "Hr15r15r15r9", SINGLES.substring(0, 76), SINGLES.substring(0, 59)}) {
        due("of " + text, written(text).fault(), text.length());
      }
    });
    test(4, "NONE if it is a hall.", () -> {
      for (String text : new String[] {"H", "Hr10", "Hr99", "Hr10|0", "Hr10r10r10r10", SINGLES}) {
        due("of " + text, written(text).fault(), NONE);
      }
    });
    test(4, "Checks the text.", () -> unchanged("fault()", Edges::busy, LoneSeats::fault));
  }

  private static void hallAnew() {
    test(5, "Makes a new hall by the text, in place of the present one.", () -> {
      LoneSeats x = hall(SINGLES);
      rewrite(x, "Hr755");
      due("hall()", x.hall(), 1);
      due("the second row is gone", x.row(1, 0), UNKNOWN);
      due("the price", x.row(0, 0), 7);
      due("two seats", x.row(0, 1), 2);
      due("the third seat is gone", x.seat(0, 2, 0), UNKNOWN);
      due("the aisle is gone", x.seat(0, 0, 1), 0);
      due("one block", x.row(0, 2), 1);
      rewrite(x, "Hr75|5r15");
      x.hall();
      due("an aisle is there", x.seat(0, 0, 1), 1);
      due("two blocks", x.row(0, 2), 2);
      due("the lone seats", x.row(0, 4), 3);
      due("no place for two", x.best(2, 9, 0), NONE);
      rewrite(x, "H");
      due("hall() without rows", x.hall(), 0);
      due("no rows", x.count(1), 0);
      due("no free seats", x.count(5), 0);
    });
    test(5, "All seats are free, there are no parties, fee and takings are 0, no act can be undone, and both"
        + " slots are empty.", () -> {
      LoneSeats x = hall("Hr155r95", "29 19 69 69 69 69 69");
      x.price(1, 8);
      x.fee(9);
      x.keep(0);
      x.keep(1);
      due("hall()", x.hall(), 2);
      due("free seats of row 0", x.row(0, 3), 3);
      due("nobody on seat 0", x.seat(0, 0, 2), 0);
      due("free seats of row 1", x.row(1, 3), 1);
      due("the price is that of the text", x.row(1, 0), 9);
      due("no party", x.party(1, 0), UNKNOWN);
      due("nobody waits", x.waits(0), NONE);
      int[] want = {8, 2, 0, 0, 0, 3, 1, 0, 0, 0, 0};
      for (int what = 0; what <= 10; what++) due("count(" + what + ")", x.count(what), want[what]);
      due("undo()", x.undo(), STATE);
      due("again(0)", x.again(0), STATE);
      due("again(1)", x.again(1), STATE);
      due("ask(6, 9)", x.ask(6, 9), 1);
      due("the new party 1 has paid nothing", x.party(1, 5), 0);
      due("it waits", x.waits(0), 1);
      due("one act", x.undo(), 0);
    });
  }

  private static void hallStays() {
    test(5, "The text, what was seen, and the seed stay.", () -> {
      LoneSeats x = hall("Hr155", "29");
      x.see(0, 1, 0);
      x.seed(-3);
      x.hall();
      due("the length", x.count(0), 5);
      due("fault()", x.fault(), NONE);
      due("hall() by the same text", x.hall(), 1);
      due("observations", x.count(10), 1);
      x.ask(2, 9);
      due("which() by what was seen", x.which(), 2);
      due("the seed", x.seed(0), -3);
    });
    test(5, "Returns the number of rows", () -> {
      due("none", written("H").hall(), 0);
      due("one", written("Hr15").hall(), 1);
      due("four", written(SINGLES).hall(), 4);
    });
    test(5, "STATE if the text has a fault.", () -> {
      for (String text : new String[] {"", "x", "Hr", "Hr1", "Hr15|", "Hr15r", "Hr15x", SINGLES + "r",
          "Hr15r15r15r15r15", "Hr05", "H "}) {
        LoneSeats x = written(text);
        due("hall() of " + text, x.hall(), STATE);
        due("rows after " + text, x.count(1), 0);
      }
    });
  }

  private static void row() {
    test(6, "`what`: 0 for the price, 1 for the number of seats, 2 for the number of blocks, 3 for the set of the"
        + " free seats, 4 for the set of the lone seats", () -> {
      LoneSeats x = hall("Hr9000000000r15r1111|1r155");
      int[][] want = {{9, 9, 1, 511, 0}, {1, 1, 1, 1, 1}, {1, 4, 2, 15, 8}, {1, 2, 1, 3, 0}};
      for (int r = 0; r < 4; r++) {
        for (int w = 0; w < 5; w++) due("row(" + r + ", " + w + ")", x.row(r, w), want[r][w]);
      }
      parties(x, "29 39 19 19");
      due("no seat of row 3 is free", x.row(3, 3), 0);
      due("none is lone", x.row(3, 4), 0);
      due("no seat of row 1 is free", x.row(1, 3), 0);
    });
    test(6, "UNKNOWN if there is no such row", () -> {
      LoneSeats x = hall("Hr15r15");
      for (int r : new int[] {-1, 2, 3, 4, LEAST, MOST}) {
        for (int w = 0; w < 5; w++) due("row(" + r + ", " + w + ")", x.row(r, w), UNKNOWN);
      }
      due("the fifth of four", hall(SINGLES).row(4, 0), UNKNOWN);
    });
    test(6, "OUTSIDE if what is not 0 to 4.", () -> {
      LoneSeats x = hall("Hr15");
      for (int w : new int[] {-1, 5, LEAST, MOST}) due("row(0, " + w + ")", x.row(0, w), OUTSIDE);
    });
  }

  private static void seat() {
    test(7, "`what`: 0 for the view, 1 for whether there is an aisle between it and the next seat (1 or 0), 2 for"
        + " the party that has taken it (0 if it is free)", () -> {
      LoneSeats x = hall("Hr10|12345|678");
      int[] aisles = {1, 0, 0, 0, 0, 1, 0, 0, 0};
      for (int s = 0; s < 9; s++) {
        due("seat(0, " + s + ", 0)", x.seat(0, s, 0), s);
        due("seat(0, " + s + ", 1)", x.seat(0, s, 1), aisles[s]);
        due("seat(0, " + s + ", 2)", x.seat(0, s, 2), 0);
      }
      parties(x, "39 39 19");
      // Party 1 has 6 to 8, party 2 has 3 to 5, party 3 has 0, which was lone.
      int[] takers = {3, 0, 0, 2, 2, 2, 1, 1, 1};
      for (int s = 0; s < 9; s++) due("seat(0, " + s + ", 2)", x.seat(0, s, 2), takers[s]);
    });
    test(7, "1 for whether there is an aisle between it and the next seat (1 or 0)", () -> {
      LoneSeats x = hall("Hr15|5r15r15|5|5");
      due("before the last seat", x.seat(0, 0, 1), 1);
      due("the last seat has no next", x.seat(0, 1, 1), 0);
      due("the only seat has no next", x.seat(1, 0, 1), 0);
      due("the last one of the hall", x.seat(2, 2, 1), 0);
      due("the ninth of nine", hall(SINGLES).seat(3, 8, 1), 0);
      due("the eighth of nine", hall(SINGLES).seat(3, 7, 1), 1);
    });
    test(7, "2 for the party that has taken it (0 if it is free)", () -> {
      LoneSeats x = hall("Hr10r10r10r1000000009", "19");
      due("seat(3, 8, 2)", x.seat(3, 8, 2), 1);
      due("seat(3, 7, 2)", x.seat(3, 7, 2), 0);
      due("seat(2, 0, 2)", x.seat(2, 0, 2), 0);
      x.giveBack(1);
      due("seat(3, 8, 2) when given back", x.seat(3, 8, 2), 0);
      LoneSeats y = hall("Hr1555555555r1555555555", "39 69");
      due("the last seat of row 0", y.seat(0, 8, 2), 2);
      due("the first seat of row 1", y.seat(1, 0, 2), 0);
      due("party 30", thirty().seat(0, 0, 2), 30);
    });
    test(7, "UNKNOWN if there is no such seat", () -> {
      LoneSeats x = hall("Hr15r1555");
      int[][] none = {{0, 1}, {0, -1}, {1, 3}, {1, -1}, {1, 9}, {2, 0}, {-1, 0}, {3, 0}, {4, 0}, {0, MOST},
          {0, LEAST}, {MOST, 0}, {LEAST, 0}};
      for (int[] n : none) due("seat(" + n[0] + ", " + n[1] + ", 0)", x.seat(n[0], n[1], 0), UNKNOWN);
      due("the tenth seat", hall(SINGLES).seat(0, 9, 0), UNKNOWN);
      due("the fifth row", hall(SINGLES).seat(4, 0, 0), UNKNOWN);
    });
    test(7, "OUTSIDE if what is not 0 to 2.", () -> {
      LoneSeats x = hall("Hr15");
      for (int w : new int[] {-1, 3, LEAST, MOST}) due("seat(0, 0, " + w + ")", x.seat(0, 0, w), OUTSIDE);
    });
  }

  private static void party() {
    test(8, "0 for the size, 1 for the limit", () -> {
      LoneSeats x = hall("Hr1555555", "19 69 11 61");
      int[][] want = {{1, 9}, {6, 9}, {1, 1}, {6, 1}};
      for (int p = 1; p <= 4; p++) {
        due("party(" + p + ", 0)", x.party(p, 0), want[p - 1][0]);
        due("party(" + p + ", 1)", x.party(p, 1), want[p - 1][1]);
      }
      x.leave(4);
      due("the size of a party that is gone", x.party(4, 0), 6);
      due("its limit", x.party(4, 1), 1);
    });
    test(8, "2 for 0 if it is gone, 1 if it is seated, 2 if it waits", () -> {
      LoneSeats x = hall("Hr15", "19 19 19");
      due("seated", x.party(1, 2), 1);
      due("waits", x.party(2, 2), 2);
      x.giveBack(1);
      due("gone after giveBack()", x.party(1, 2), 0);
      due("let in", x.party(2, 2), 1);
      x.leave(3);
      due("gone after leave()", x.party(3, 2), 0);
      x.undo();
      due("waits again", x.party(3, 2), 2);
      x.undo();
      due("seated again", x.party(1, 2), 1);
    });
    test(8, "3 for its row and 4 for its first seat (NONE if it is not seated)", () -> {
      LoneSeats x = hall("Hr10r10r10r1000000009", "19 19 69");
      due("the last row", x.party(1, 3), 3);
      due("the last seat", x.party(1, 4), 8);
      due("the first row", x.party(2, 3), 0);
      due("the first seat", x.party(2, 4), 0);
      due("row 3 too for six", x.party(3, 3), 3);
      LoneSeats y = hall("Hr15", "19 19 19");
      y.giveBack(1);
      y.leave(3);
      y.ask(1, 9);
      for (int p : new int[] {1, 3, 4}) {
        due("party(" + p + ", 3)", y.party(p, 3), NONE);
        due("party(" + p + ", 4)", y.party(p, 4), NONE);
      }
    });
    test(8, "5 for what it paid (0 if it is not seated)", () -> {
      LoneSeats x = hall("Hr9555555r15", "69 61 19 11");
      due("the most, 6 * 9", x.party(1, 5), 54);
      due("it waits", x.party(2, 5), 0);
      due("the least, 1 * 1", x.party(3, 5), 1);
      x.fee(5);
      x.giveBack(1);
      due("it is gone, though the fee was not paid back", x.party(1, 5), 0);
      x.leave(2);
      due("it left", x.party(2, 5), 0);
    });
    test(8, "UNKNOWN if there is no such party", () -> {
      LoneSeats x = hall("Hr15", "19 19");
      for (int p : new int[] {0, 3, 30, 31, -1, LEAST, MOST}) due("party(" + p + ", 0)", x.party(p, 0), UNKNOWN);
      x.undo();
      due("party(2, 0) when undone", x.party(2, 0), UNKNOWN);
      due("party(31, 0) of 30", thirty().party(31, 0), UNKNOWN);
      due("party(30, 0) of 30", thirty().party(30, 0), 1);
    });
    test(8, "OUTSIDE if what is not 0 to 5.", () -> {
      LoneSeats x = hall("Hr15", "19 19");
      for (int w : new int[] {-1, 6, LEAST, MOST}) {
        due("party(1, " + w + ")", x.party(1, w), OUTSIDE);
        due("party(2, " + w + ")", x.party(2, w), OUTSIDE);
      }
    });
  }
}
