/** Each promise of the document with answers worked out by hand: ordinary calls, edges, wrong calls. */
public final class PromisesTest {
  private static final int UNKNOWN = -1, OUTSIDE = -2, STATE = -3, FULL = -4, NONE = -9;
  private static final int LEAST = Integer.MIN_VALUE, MOST = Integer.MAX_VALUE;
  private static int wrong = 0;
  private static int promise = 0;

  private static void due(String call, long got, long want) {
    if (got != want) {
      wrong++;
      System.out.println("promise " + promise + ": " + call + " answered " + got + ", due is " + want);
    }
  }

  private static LoneSeats written(String text) {
    LoneSeats x = new LoneSeats();
    rewrite(x, text);
    return x;
  }

  private static void rewrite(LoneSeats x, String text) {
    x.wipe();
    for (char c : text.toCharArray()) x.write(c);
  }

  private static LoneSeats hall(String text) {
    LoneSeats x = written(text);
    if (x.hall() < 0) due("hall() of " + text, STATE, 0);
    return x;
  }

  private static void parties(LoneSeats x, String sizesAndLimits) {
    for (String one : sizesAndLimits.split(" ")) x.ask(one.charAt(0) - '0', one.charAt(1) - '0');
  }

  public static void main(String[] args) {
    newObject();
    write();
    wipe();
    fault();
    makeHall();
    row();
    seat();
    party();
    ask();
    askWhenFull();
    giveBack();
    letIn();
    leave();
    shift();
    shiftAndLetIn();
    price();
    fee();
    undo();
    undoOfEachAct();
    best();
    room();
    waits();
    judge();
    judgeWrong();
    see();
    unsee();
    which();
    share();
    away();
    seed();
    drawn();
    keep();
    again();
    count();
    System.out.println(wrong == 0 ? "all promises hold" : wrong + " answers are wrong");
    if (wrong != 0) System.exit(1);
  }

  private static void newObject() {
    promise = 1;
    LoneSeats x = new LoneSeats();
    for (int what = 0; what <= 10; what++) due("count(" + what + ")", x.count(what), 0);
    due("row(0, 0)", x.row(0, 0), UNKNOWN);
    due("which()", x.which(), 0);
    due("again(0)", x.again(0), STATE);
    due("again(1)", x.again(1), STATE);
    due("undo()", x.undo(), STATE);
    due("fault()", x.fault(), 0);
    due("seed(5)", x.seed(5), 0);
  }

  private static void write() {
    promise = 2;
    LoneSeats x = new LoneSeats();
    due("write(-1)", x.write(-1), OUTSIDE);
    due("write(256)", x.write(256), OUTSIDE);
    due("write(0)", x.write(0), 1);
    due("write(255)", x.write(255), 2);
    for (int i = 3; i <= 80; i++) due("write(72)", x.write(72), i);
    due("write(72) at 80", x.write(72), FULL);
    due("write(256) at 80", x.write(256), OUTSIDE);
    due("write least", x.write(LEAST), OUTSIDE);
    due("count(0)", x.count(0), 80);
  }

  private static void wipe() {
    promise = 3;
    LoneSeats x = written("Hr15");
    due("wipe()", x.wipe(), 4);
    due("wipe()", x.wipe(), 0);
    due("count(0)", x.count(0), 0);
    due("write(72)", x.write(72), 1);
    due("fault()", x.fault(), NONE);
  }

  private static void fault() {
    promise = 4;
    String nine = "r9012345678";
    String ninePieces = "r90|1|2|3|4|5|6|7|8";
    Object[][] cases = {{"", 0}, {"H", NONE}, {"h", 0}, {"r", 0}, {"HH", 1}, {"H1", 1}, {"H|", 1},
        {"Hr", 2}, {"Hr0", 2}, {"Hrr", 2}, {"Hr1", 3}, {"Hr1r", 3}, {"Hr1|", 3}, {"Hr10", NONE},
        {"Hr10|", 5}, {"Hr10||", 5}, {"Hr10|r", 5}, {"Hr10|H", 5}, {"Hr10H", 4}, {"Hr10 ", 4},
        {"H" + nine, NONE}, {"H" + nine + "0", 12}, {"H" + nine + "|", 12}, {"H" + nine + "r", 13},
        {"H" + ninePieces, NONE}, {"H" + ninePieces + "|", 20}, {"Hr101234567|", 12},
        {"Hr10r20r30r40", NONE}, {"Hr10r20r30r40r", 13}, {"Hr10r20r30r40r50", 13},
        {"Hr10r20r30r", 11}, {"H" + ninePieces.repeat(4), NONE}, {"H" + ninePieces.repeat(4) + "r", 77},
        {"Hr1" + (char) 0, 3}, {"Hr1:", 3}, {"Hr1/", 3}, {"Hr:", 2}, {"x" + "Hr10".repeat(19), 0}};
    for (Object[] c : cases) due("fault() of " + c[0], written((String) c[0]).fault(), (Integer) c[1]);
    LoneSeats x = written("Hr10");
    x.fault();
    due("fault() makes no hall", x.count(1), 0);
    due("fault() keeps the text", x.count(0), 4);
  }

  private static void makeHall() {
    promise = 5;
    due("hall() of an empty text", new LoneSeats().hall(), STATE);
    due("hall() of H", written("H").hall(), 0);
    LoneSeats x = hall("Hr1555r29|9");
    x.seed(77);
    parties(x, "31 19 66");
    x.fee(4);
    x.keep(0);
    x.keep(1);
    x.see(0, 0, 1);
    rewrite(x, "Hr");
    due("hall() with a fault", x.hall(), STATE);
    due("the hall stays", x.count(1), 2);
    due("the parties stay", x.count(2), 3);
    due("the acts stay", x.count(9), 4);
    due("the slots stay", x.again(0), 3);
    x.fee(6);
    x.keep(1);
    rewrite(x, "Hr3456r55r55r55");
    due("hall()", x.hall(), 4);
    int[] want = {15, 4, 0, 0, 0, 6, 3, 0, 0, 0, 1};
    for (int what = 0; what <= 10; what++) due("count(" + what + ")", x.count(what), want[what]);
    due("row(0, 0)", x.row(0, 0), 3);
    due("row(0, 3)", x.row(0, 3), 7);
    due("seat(0, 2, 0)", x.seat(0, 2, 0), 6);
    due("waits(0)", x.waits(0), NONE);
    due("again(0)", x.again(0), STATE);
    due("again(1)", x.again(1), STATE);
    due("undo()", x.undo(), STATE);
    due("seed", x.seed(0), 77);
    due("hall() once more", x.hall(), 4);
  }

  private static void row() {
    promise = 6;
    LoneSeats x = hall("Hr7123456789r10|1|23r25");
    int[][] want = {{7, 9, 1, 511, 0}, {1, 4, 3, 15, 3}, {2, 1, 1, 1, 1}};
    for (int r = 0; r < 3; r++) {
      for (int w = 0; w < 5; w++) due("row(" + r + ", " + w + ")", x.row(r, w), want[r][w]);
    }
    due("row(3, 0)", x.row(3, 0), UNKNOWN);
    due("row(-1, 0)", x.row(-1, 0), UNKNOWN);
    due("row(3, 5)", x.row(3, 5), UNKNOWN);
    due("row(most, least)", x.row(MOST, LEAST), UNKNOWN);
    due("row(0, 5)", x.row(0, 5), OUTSIDE);
    due("row(0, -1)", x.row(0, -1), OUTSIDE);
    x.ask(6, 9);
    due("the free seats with 3 to 8 taken", x.row(0, 3), 7);
    x.price(0, 9);
    due("row(0, 0)", x.row(0, 0), 9);
  }

  private static void seat() {
    promise = 7;
    LoneSeats x = hall("Hr10|12r39");
    due("seat(0, 0, 0)", x.seat(0, 0, 0), 0);
    due("seat(0, 2, 0)", x.seat(0, 2, 0), 2);
    due("seat(1, 0, 0)", x.seat(1, 0, 0), 9);
    due("seat(0, 0, 1)", x.seat(0, 0, 1), 1);
    due("seat(0, 1, 1)", x.seat(0, 1, 1), 0);
    due("seat(0, 2, 1), the last one", x.seat(0, 2, 1), 0);
    due("an aisle before the last one", hall("Hr15|5").seat(0, 0, 1), 1);
    due("seat(0, 1, 2)", x.seat(0, 1, 2), 0);
    parties(x, "19 29");
    due("seat(1, 0, 2)", x.seat(1, 0, 2), 1);
    due("seat(0, 0, 2)", x.seat(0, 0, 2), 0);
    due("seat(0, 1, 2)", x.seat(0, 1, 2), 2);
    due("seat(0, 2, 2)", x.seat(0, 2, 2), 2);
    LoneSeats y = hall("Hr100099");
    y.ask(2, 9);
    y.ask(1, 9);
    int[] takers = {2, 0, 0, 1, 1};
    for (int s = 0; s < 5; s++) due("seat(0, " + s + ", 2)", y.seat(0, s, 2), takers[s]);
    due("seat(0, 3, 0)", x.seat(0, 3, 0), UNKNOWN);
    due("seat(0, -1, 0)", x.seat(0, -1, 0), UNKNOWN);
    due("seat(1, 1, 3)", x.seat(1, 1, 3), UNKNOWN);
    due("seat(2, 0, 0)", x.seat(2, 0, 0), UNKNOWN);
    due("seat(-1, 0, 0)", x.seat(-1, 0, 0), UNKNOWN);
    due("seat(0, most, 0)", x.seat(0, MOST, 0), UNKNOWN);
    due("seat(0, 0, 3)", x.seat(0, 0, 3), OUTSIDE);
    due("seat(0, 0, -1)", x.seat(0, 0, -1), OUTSIDE);
  }

  private static void party() {
    promise = 8;
    LoneSeats x = hall("Hr1000r412|34");
    parties(x, "29 33 61 12");
    x.giveBack(2);
    // Party 1 has the seats 2 and 3 of row 1, party 2 is gone from row 0, party 3 waits, and party 4
    // was let in at seat 0 of row 0.
    int[][] want = {{2, 9, 1, 1, 2, 8}, {3, 3, 0, NONE, NONE, 0}, {6, 1, 2, NONE, NONE, 0},
        {1, 2, 1, 0, 0, 1}};
    for (int p = 1; p <= 4; p++) {
      for (int w = 0; w < 6; w++) due("party(" + p + ", " + w + ")", x.party(p, w), want[p - 1][w]);
    }
    due("party(0, 0)", x.party(0, 0), UNKNOWN);
    due("party(5, 0)", x.party(5, 0), UNKNOWN);
    due("party(5, 6)", x.party(5, 6), UNKNOWN);
    due("party(-1, 0)", x.party(-1, 0), UNKNOWN);
    due("party(most, 0)", x.party(MOST, 0), UNKNOWN);
    due("party(1, 6)", x.party(1, 6), OUTSIDE);
    due("party(1, -1)", x.party(1, -1), OUTSIDE);
    x.price(1, 9);
    due("what was paid stays", x.party(1, 5), 8);
  }

  private static void ask() {
    promise = 9;
    LoneSeats x = hall("Hr2123");
    int[][] bad = {{0, 1}, {7, 1}, {1, 0}, {1, 10}, {LEAST, MOST}};
    for (int[] b : bad) due("ask(" + b[0] + ", " + b[1] + ")", x.ask(b[0], b[1]), OUTSIDE);
    due("no party asked", x.count(2), 0);
    due("no act", x.count(9), 0);
    due("ask(2, 9), would leave a lone seat", x.ask(2, 9), 1);
    due("it waits", x.party(1, 2), 2);
    due("ask(1, 1), too dear", x.ask(1, 1), 2);
    due("it waits behind", x.waits(1), 2);
    due("ask(1, 2)", x.ask(1, 2), 3);
    due("its seat is the best at an edge", x.party(3, 4), 2);
    due("its pay", x.party(3, 5), 2);
    due("nobody is let in by ask()", x.party(1, 2), 2);
    due("ask(2, 2), in spite of the queue", x.ask(2, 2), 4);
    due("its first seat", x.party(4, 4), 0);
    due("takings", x.count(8), 6);
  }

  private static void askWhenFull() {
    LoneSeats x = hall("Hr155");
    for (int p = 1; p <= 5; p++) due("ask(3, 9)", x.ask(3, 9), p);
    due("ask(3, 9) with five waiting", x.ask(3, 9), FULL);
    due("no act", x.count(9), 5);
    due("ask(2, 9) with a place", x.ask(2, 9), 6);
    for (int p = 7; p <= 30; p++) {
      x.giveBack(p - 1);
      due("ask(2, 9)", x.ask(2, 9), p);
    }
    x.giveBack(30);
    due("there is a place", x.best(2, 9, 0), 0);
    due("ask(2, 9) after 30 parties", x.ask(2, 9), FULL);
    due("ask(0, 9) after 30 parties", x.ask(0, 9), OUTSIDE);
    due("30 parties", x.count(2), 30);
    x.undo();
    due("party 30 is back", x.party(30, 2), 1);
  }

  private static void giveBack() {
    promise = 10;
    LoneSeats x = hall("Hr3555|55");
    parties(x, "39 29 69");
    due("giveBack(0)", x.giveBack(0), UNKNOWN);
    due("giveBack(4)", x.giveBack(4), UNKNOWN);
    due("giveBack(3), it waits", x.giveBack(3), STATE);
    x.fee(1);
    due("giveBack(1) minus the fee", x.giveBack(1), 6);
    due("takings", x.count(8), 9);
    due("free seats", x.row(0, 3), 7);
    due("it is gone", x.party(1, 2), 0);
    due("giveBack(1) again", x.giveBack(1), STATE);
    x.price(0, 1);
    x.fee(9);
    due("giveBack(2), the fee above the pay", x.giveBack(2), 0);
    due("takings", x.count(8), 9);
    x.fee(0);
    x.ask(2, 1);
    due("giveBack(4) with the new price", x.giveBack(4), 2);
    due("takings", x.count(8), 9);
    due("giveBack least", x.giveBack(LEAST), UNKNOWN);
  }

  private static void letIn() {
    LoneSeats x = hall("Hr1555");
    parties(x, "39 29 19");
    due("giveBack(1)", x.giveBack(1), 3);
    due("party 2 had no place at its moment", x.party(2, 2), 2);
    due("party 3 has", x.party(3, 4), 0);
    due("the queue", x.waits(0), 2);
    due("nobody behind", x.waits(1), NONE);
    due("now there is a place for two", x.best(2, 9, 0), 1);
    due("giveBack(3)", x.giveBack(3), 1);
    due("but not any more", x.party(2, 2), 2);
    LoneSeats y = hall("Hr1555555");
    parties(y, "69 39 29 19 19 69");
    due("giveBack(1)", y.giveBack(1), 6);
    due("party 2 is first", y.party(2, 4), 0);
    due("party 3 would leave a lone seat", y.party(3, 2), 2);
    due("party 4", y.party(4, 4), 3);
    due("party 5 would leave one too", y.party(5, 2), 2);
    due("the queue", y.waits(0), 3);
    due("the queue", y.waits(1), 5);
    due("the queue", y.waits(2), 6);
    due("takings", y.count(8), 4);
  }

  private static void leave() {
    promise = 11;
    LoneSeats x = hall("Hr15");
    parties(x, "19 29 39 49");
    due("leave(0)", x.leave(0), UNKNOWN);
    due("leave(5)", x.leave(5), UNKNOWN);
    due("leave(1), seated", x.leave(1), STATE);
    due("leave(3)", x.leave(3), 2);
    due("leave(3) again", x.leave(3), STATE);
    due("waits(0)", x.waits(0), 2);
    due("waits(1)", x.waits(1), 4);
    due("waits(2)", x.waits(2), NONE);
    due("party(3, 2)", x.party(3, 2), 0);
    due("leave(4)", x.leave(4), 1);
    due("party(4, 2)", x.party(4, 2), 0);
    due("leave(4) again", x.leave(4), STATE);
    due("leave(2)", x.leave(2), 0);
    due("undo()", x.undo(), 6);
    due("waits(0)", x.waits(0), 2);
    due("leave most", x.leave(MOST), UNKNOWN);
  }

  private static void shift() {
    promise = 12;
    LoneSeats x = hall("Hr1012");
    parties(x, "11 21 61");
    due("shift(0)", x.shift(0), UNKNOWN);
    due("shift(4)", x.shift(4), UNKNOWN);
    due("shift(3), it waits", x.shift(3), STATE);
    due("shift(2), nothing better", x.shift(2), STATE);
    x.giveBack(1);
    due("shift(1), it is gone", x.shift(1), STATE);
    due("lone seats", x.row(0, 4), 4);
    int acts = x.count(9);
    due("shift(2) over its own seats", x.shift(2), 2);
    due("its first seat", x.party(2, 4), 1);
    due("lone seats", x.row(0, 4), 1);
    due("takings", x.count(8), 2);
    due("one act more", x.count(9), acts + 1);
    due("shift(2) again", x.shift(2), STATE);
    due("no act more", x.count(9), acts + 1);
    LoneSeats y = hall("Hr155r9999");
    parties(y, "23 39");
    y.giveBack(2);
    due("shift(1), too dear", y.shift(1), STATE);
    y.price(1, 3);
    due("shift(1), would leave one lone seat more", y.shift(1), STATE);
    LoneSeats z = hall("Hr155r955");
    parties(z, "29");
    z.price(1, 1);
    due("shift(1) to equal seats", z.shift(1), STATE);
    LoneSeats w = hall("Hr15r999");
    w.ask(1, 9);
    due("shift(1), its own seat would be lone too", w.shift(1), STATE);
    LoneSeats v = hall("Hr14|4r95|5");
    v.ask(1, 1);
    due("shift(1), nothing within its limit", v.shift(1), STATE);
    v.price(1, 1);
    due("shift(1), by one", v.shift(1), 1);
  }

  private static void shiftAndLetIn() {
    LoneSeats x = hall("Hr1001r9555");
    parties(x, "11 22");
    x.giveBack(1);
    x.ask(3, 1);
    due("price(1, 2)", x.price(1, 2), 9);
    due("no place for two", x.best(2, 9, 0), NONE);
    due("shift(2), the lone seat moves with it", x.shift(2), 10);
    due("its row", x.party(2, 3), 1);
    due("its first seat", x.party(2, 4), 0);
    due("what it paid", x.party(2, 5), 2);
    due("party 3 is let in", x.party(3, 2), 1);
    due("its row", x.party(3, 3), 0);
    due("row 1", x.row(1, 3), 4);
    due("takings", x.count(8), 5);
    due("undo()", x.undo(), 5);
    due("party 2 is back", x.party(2, 3), 0);
    due("party 3 waits", x.waits(0), 3);
    due("row 1", x.row(1, 3), 7);
  }

  private static void price() {
    promise = 13;
    LoneSeats x = hall("Hr555");
    parties(x, "25 24 23");
    due("price(1, 1)", x.price(1, 1), UNKNOWN);
    due("price(-1, 0)", x.price(-1, 0), UNKNOWN);
    due("price(0, 0)", x.price(0, 0), OUTSIDE);
    due("price(0, 10)", x.price(0, 10), OUTSIDE);
    due("no act", x.count(9), 3);
    due("price(0, 3)", x.price(0, 3), 5);
    due("row(0, 0)", x.row(0, 0), 3);
    due("takings", x.count(8), 10);
    due("giveBack(1), what it paid", x.giveBack(1), 10);
    due("party 2 pays the new price", x.party(2, 5), 6);
    due("price(0, 3), the same", x.price(0, 3), 3);
    due("is an act", x.count(9), 6);
    LoneSeats y = hall("Hr955");
    parties(y, "22 23");
    due("price(0, 3)", y.price(0, 3), 9);
    due("party 2 is let in", y.party(2, 2), 1);
    due("party 1 is not", y.party(1, 2), 2);
  }

  private static void fee() {
    promise = 14;
    LoneSeats x = hall("Hr55");
    due("fee(-1)", x.fee(-1), OUTSIDE);
    due("fee(10)", x.fee(10), OUTSIDE);
    due("no act", x.count(9), 0);
    due("fee(9)", x.fee(9), 0);
    due("fee(9)", x.fee(9), 9);
    due("fee(0)", x.fee(0), 9);
    due("fee(2)", x.fee(2), 0);
    due("count(7)", x.count(7), 2);
    due("four acts", x.count(9), 4);
    due("undo()", x.undo(), 3);
    due("count(7)", x.count(7), 0);
    due("undo()", x.undo(), 2);
    due("count(7)", x.count(7), 9);
  }

  private static void undo() {
    promise = 15;
    LoneSeats x = hall("Hr155");
    due("undo()", x.undo(), STATE);
    for (int i = 1; i <= 17; i++) {
      x.fee(i % 10);
      due("acts after " + i, x.count(9), Math.min(i, 14));
    }
    for (int i = 13; i >= 0; i--) {
      due("undo()", x.undo(), i);
      due("the fee", x.count(7), (i + 3) % 10);
    }
    due("undo()", x.undo(), STATE);
    due("the fee", x.count(7), 3);
    x.fee(8);
    due("undo()", x.undo(), 0);
    due("the fee", x.count(7), 3);
  }

  private static void undoOfEachAct() {
    LoneSeats x = hall("Hr1001r9555");
    parties(x, "11 22");
    due("undo() of ask()", x.undo(), 1);
    due("party(2, 0)", x.party(2, 0), UNKNOWN);
    due("takings", x.count(8), 1);
    due("ask(2, 2) gets the number again", x.ask(2, 2), 2);
    x.fee(1);
    due("giveBack(2)", x.giveBack(2), 0);
    due("undo() of giveBack()", x.undo(), 3);
    due("party(2, 2)", x.party(2, 2), 1);
    due("seat(0, 1, 2)", x.seat(0, 1, 2), 2);
    x.ask(3, 1);
    x.ask(3, 4);
    due("leave(3)", x.leave(3), 1);
    due("undo() of leave()", x.undo(), 5);
    due("waits(0)", x.waits(0), 3);
    due("waits(1)", x.waits(1), 4);
    due("price(1, 4)", x.price(1, 4), 9);
    due("party(4, 5)", x.party(4, 5), 12);
    due("undo() of price()", x.undo(), 5);
    due("row(1, 0)", x.row(1, 0), 9);
    due("party(4, 2)", x.party(4, 2), 2);
    due("waits(1)", x.waits(1), 4);
    due("takings", x.count(8), 3);
    due("errors are no acts", x.giveBack(9), UNKNOWN);
    due("count(9)", x.count(9), 5);
    x.see(0, 0, 1);
    x.write(72);
    x.seed(4);
    x.undo();
    due("observations stay", x.count(10), 1);
    due("the seed stays", x.seed(0), 4);
  }

  private static void best() {
    promise = 16;
    LoneSeats x = hall("Hr2123r43|21");
    due("best(1, 9, 0), the lone seat of view 3 is dearer", x.best(1, 9, 0), 2);
    due("best(1, 9, 1)", x.best(1, 9, 1), 3);
    due("best(1, 9, 2)", x.best(1, 9, 2), 3);
    due("best(1, 2, 2)", x.best(1, 2, 2), 2);
    due("best(2, 9, 0)", x.best(2, 9, 0), 11);
    due("best(2, 2, 0)", x.best(2, 2, 0), NONE);
    due("best(2, 2, 1)", x.best(2, 2, 1), NONE);
    due("best(2, 2, 2)", x.best(2, 2, 2), 0);
    due("best(3, 9, 0)", x.best(3, 9, 0), 0);
    due("best(3, 1, 0)", x.best(3, 1, 0), NONE);
    due("best(6, 9, 1)", x.best(6, 9, 1), NONE);
    int[][] bad = {{0, 1, 0}, {7, 1, 0}, {1, 0, 0}, {1, 10, 0}, {1, 1, -1}, {1, 1, 3}};
    for (int[] b : bad) due("best of " + b[0] + b[1] + b[2], x.best(b[0], b[1], b[2]), OUTSIDE);
    LoneSeats y = hall("Hr355r255r255|55r955");
    due("the lowest price, then the lowest row", y.best(2, 9, 0), 10);
    y.ask(2, 9);
    due("then the lowest seat", y.best(2, 9, 0), 20);
    y.ask(2, 9);
    due("the next block", y.best(2, 9, 0), 22);
    due("of quality", y.best(2, 9, 1), 10);
    due("best(2, 9, 2)", y.best(2, 9, 2), 3);
    LoneSeats z = hall("Hr1000r100");
    due("quality 0 is a place", z.best(2, 9, 1), 0);
    due("best(2, 9, 0)", z.best(2, 9, 0), 10);
  }

  private static void room() {
    promise = 17;
    LoneSeats x = hall("Hr9555555555r15|5|5");
    int[] want = {10, 3, 3, 1, 1, 1};
    for (int size = 1; size <= 6; size++) due("room(" + size + ")", x.room(size), want[size - 1]);
    due("room(0)", x.room(0), OUTSIDE);
    due("room(7)", x.room(7), OUTSIDE);
    due("nothing is changed", x.count(5), 12);
    due("no act", x.count(9), 0);
    LoneSeats y = hall("Hr15|5|5|5|5|5|5|5|5r15|5|5|5|5|5|5|5|5r15|5|5|5|5|5|5|5|5r15|5|5|5|5|5|5|5|5");
    due("room(1), more than 30", y.room(1), 36);
    due("room(2)", y.room(2), 0);
    due("room(1) without rows", new LoneSeats().room(1), 0);
  }

  private static void waits() {
    promise = 18;
    LoneSeats x = new LoneSeats();
    due("waits(0)", x.waits(0), NONE);
    parties(x, "11 11 11 11 11");
    for (int i = 0; i < 5; i++) due("waits(" + i + ")", x.waits(i), i + 1);
    due("waits(5)", x.waits(5), NONE);
    due("waits(-1)", x.waits(-1), NONE);
    due("waits least", x.waits(LEAST), NONE);
    due("waits most", x.waits(MOST), NONE);
    x.leave(1);
    due("waits(0)", x.waits(0), 2);
    due("waits(4)", x.waits(4), NONE);
  }

  private static void judge() {
    promise = 19;
    LoneSeats x = hall("Hr5555r25|55");
    parties(x, "35 23 65");
    // Party 1 has row 0, party 2 the seats 1 and 2 of row 1, party 3 waits; seat 0 of row 1 is lone.
    due("lone, free, seated, place", x.judge(4, 410501602712L), NONE);
    due("seat 1 of row 1 is not lone", x.judge(1, 411), 0);
    due("give back, then eight", x.judge(2, 202503), NONE);
    due("ask and sit", x.judge(4, 202122604500L), 3);
    due("ask and sit", x.judge(4, 202122604501L), NONE);
    due("the copy begins anew", x.judge(1, 501), NONE);
    due("the price, then no place", x.judge(2, 313712), 1);
    due("the price, then a place", x.judge(2, 313713), NONE);
    due("cannot be seated at once", x.judge(2, 602165), 1);
    due("nothing is changed", x.count(5), 1);
    due("no act", x.count(9), 3);
    x.leave(3);
    x.ask(3, 1);
    due("letting in after a price", x.judge(4, 201504301604L), NONE);
    due("without it", x.judge(4, 201504302604L), 3);
    due("letting in after a return", x.judge(3, 301201604L), NONE);
    due("present prices stay", x.row(0, 0), 5);
  }

  private static void judgeWrong() {
    LoneSeats x = hall("Hr155");
    x.ask(2, 9);
    due("n = 0", x.judge(0, 0), OUTSIDE);
    due("n = 5", x.judge(5, 0), OUTSIDE);
    due("n least", x.judge(LEAST, 0), OUTSIDE);
    due("a negative row", x.judge(1, -1), OUTSIDE);
    due("four digits for one", x.judge(1, 1000), OUTSIDE);
    due("thirteen digits", x.judge(4, 1000000000000L), OUTSIDE);
    due("the greatest row", x.judge(4, Long.MAX_VALUE), OUTSIDE);
    due("the least row", x.judge(4, Long.MIN_VALUE), OUTSIDE);
    long[] wrongOnes = {0, 1, 99, 800, 999, 101, 110, 171, 200, 202, 310, 300, 321, 311, 402, 410,
        400, 501, 600, 602, 631, 701, 710, 771, 721};
    for (long one : wrongOnes) due("judge(1, " + one + ")", x.judge(1, one), 0);
    LoneSeats y = hall("Hr1555555555");
    due("a place for 7", y.judge(1, 779), 0);
    due("a party of 7", y.judge(1, 179), 0);
    LoneSeats z = hall("Hr1555");
    due("a place with a lone seat", z.judge(1, 729), 0);
    due("a party with a lone seat", z.judge(1, 129), 0);
    due("after another one", z.judge(2, 119129), NONE);
    due("leading zeros", x.judge(2, 601), 0);
    due("the second one is wrong", x.judge(3, 601000601L), 1);
    due("the last one is wrong", x.judge(4, 601601601602L), 3);
    due("four digits for two", x.judge(2, 1601), 0);
    for (int p = 2; p <= 30; p++) {
      x.giveBack(p - 1);
      x.ask(2, 9);
    }
    due("a return and a place for it", x.judge(2, 230729), NONE);
    due("but a 31st party cannot ask", x.judge(2, 230129), 1);
  }

  private static void see() {
    promise = 20;
    LoneSeats x = hall("Hr155r1555");
    due("see(2, 0, 1)", x.see(2, 0, 1), UNKNOWN);
    due("see(0, 2, 2)", x.see(0, 2, 2), UNKNOWN);
    due("see(-1, 0, 0)", x.see(-1, 0, 0), UNKNOWN);
    due("see(0, 1, 2)", x.see(0, 1, 2), OUTSIDE);
    due("see(0, 1, -1)", x.see(0, 1, -1), OUTSIDE);
    for (int i = 1; i <= 6; i++) due("see(1, 2, 0)", x.see(1, 2, 0), i);
    due("see(1, 2, 0)", x.see(1, 2, 0), FULL);
    due("see(1, 2, 5)", x.see(1, 2, 5), OUTSIDE);
    due("see(1, 3, 0)", x.see(1, 3, 0), UNKNOWN);
    due("no acts", x.count(9), 0);
    x.hall();
    due("they stay with another hall", x.count(10), 6);
  }

  private static void unsee() {
    promise = 21;
    LoneSeats x = hall("Hr155");
    due("unsee()", x.unsee(), 0);
    x.ask(2, 9);
    x.see(0, 0, 1);
    x.see(0, 1, 1);
    due("which()", x.which(), 0);
    due("unsee()", x.unsee(), 2);
    due("unsee()", x.unsee(), 0);
    due("which()", x.which(), 2);
    due("see(0, 0, 0)", x.see(0, 0, 0), 1);
  }

  private static void which() {
    promise = 22;
    LoneSeats x = hall("Hr15555r15|5");
    parties(x, "29 29 69 19 19");
    // Parties 1 and 2 have row 0; 4 and 5 row 1; 3 waits.
    due("nothing seen", x.which(), 2 + 4 + 16 + 32);
    x.see(0, 0, 1);
    due("seat 0 was occupied", x.which(), 4 + 16 + 32);
    x.see(0, 3, 0);
    due("seat 3 was not", x.which(), 4);
    x.see(1, 0, 0);
    due("two absent is too much", x.which(), 0);
    x.giveBack(4);
    due("a free seat", x.which(), 4);
    x.giveBack(2);
    due("two free seats, only party 5 can be absent", x.which(), 32);
    x.see(1, 1, 1);
    due("then party 5 cannot", x.which(), 0);
    rewrite(x, "Hr155");
    x.hall();
    x.ask(2, 9);
    due("which() with seat 0 occupied", x.which(), 0);
    LoneSeats y = hall("Hr15r155");
    y.see(1, 1, 0);
    rewrite(y, "Hr155");
    y.hall();
    y.ask(2, 9);
    due("a seat that is gone", y.which(), 2);
    rewrite(y, "Hr15r155");
    y.hall();
    y.ask(1, 9);
    y.ask(2, 9);
    due("and is back", y.which(), 4);
    y.see(1, 0, 1);
    due("against each other", y.which(), 0);
    LoneSeats z = hall("Hr15");
    for (int p = 1; p <= 30; p++) {
      z.giveBack(p - 1);
      z.ask(1, 9);
    }
    due("party 30", z.which(), 1 << 30);
  }

  private static void share() {
    promise = 23;
    LoneSeats x = hall("Hr11r92r14r18");
    int[] upper = {1, 7, 19, 67};
    int[] lower = {4, 12, 12, 12};
    for (int r = 0; r < 4; r++) {
      due("share(" + r + ", 1, true)", x.share(r, 1, true), upper[r]);
      due("share(" + r + ", 1, false)", x.share(r, 1, false), lower[r]);
    }
    due("share(0, 2, true) without a place", x.share(0, 2, true), 0);
    due("share(0, 2, false)", x.share(0, 2, false), 1);
    due("share(4, 1, true)", x.share(4, 1, true), UNKNOWN);
    due("share(-1, 0, true)", x.share(-1, 0, true), UNKNOWN);
    due("share(0, 0, true)", x.share(0, 0, true), OUTSIDE);
    due("share(0, 7, false)", x.share(0, 7, false), OUTSIDE);
    LoneSeats y = hall("Hr1222r1333");
    due("share(0, 3, true)", y.share(0, 3, true), 3);
    due("share(1, 3, true)", y.share(1, 3, true), 6);
    due("share(1, 3, false)", y.share(1, 3, false), 1);
    due("share(1, 2, true), a lone seat more", y.share(1, 2, true), 0);
    LoneSeats z = hall("Hr1999");
    due("share(0, 3, true) of one row", z.share(0, 3, true), 27);
    z.ask(3, 9);
    due("share(0, 3, true) when taken", z.share(0, 3, true), 0);
  }

  private static void away() {
    promise = 24;
    LoneSeats x = hall("Hr15|55|555r19");
    parties(x, "19 29 19 69");
    // Party 1 has row 1, party 2 the seats 1 and 2, party 3 seat 0 of row 0.
    int[][] want = {{0, 4, 1, 1}, {1, 4, 21, 25}, {2, 4, 3, 5}, {3, 4, 9, 25}, {4, 4, 0, 1},
        {9, 0, 0, 1}, {3, 0, 1, 1}, {1, 10, 0, 1}, {0, 10, 1, 1}, {3, 5, 1, 4}, {2, 9, 1, 10}};
    for (int[] w : want) {
      due("away(0, " + w[0] + ", " + w[1] + ", true)", x.away(0, w[0], w[1], true), w[2]);
      due("away(0, " + w[0] + ", " + w[1] + ", false)", x.away(0, w[0], w[1], false), w[3]);
    }
    due("away(1, 1, 3, true)", x.away(1, 1, 3, true), 7);
    due("away(2, 0, 0, true)", x.away(2, 0, 0, true), UNKNOWN);
    due("away(-1, 10, 0, true)", x.away(-1, 10, 0, true), UNKNOWN);
    int[][] bad = {{-1, 0}, {10, 0}, {0, -1}, {0, 11}};
    for (int[] b : bad) due("away(0, " + b[0] + ", " + b[1] + ")", x.away(0, b[0], b[1], false), OUTSIDE);
    LoneSeats y = hall("Hr15|5|5|5|5|5|5|5|5");
    due("away(0, 1, 5, true) of an empty row", y.away(0, 1, 5, true), 0);
    for (int i = 0; i < 9; i++) y.ask(1, 9);
    due("away(0, 9, 1, true)", y.away(0, 9, 1, true), 387420489);
    due("away(0, 9, 1, false)", y.away(0, 9, 1, false), 1000000000);
    due("away(0, 8, 1, true)", y.away(0, 8, 1, true), 387420489);
    due("away(0, 8, 1, false)", y.away(0, 8, 1, false), 500000000);
    due("away(0, 0, 3, false)", y.away(0, 0, 3, false), 1);
  }

  private static void seed() {
    promise = 25;
    LoneSeats x = new LoneSeats();
    due("seed(most)", x.seed(Long.MAX_VALUE), 0);
    due("seed(least)", x.seed(Long.MIN_VALUE), Long.MAX_VALUE);
    due("seed(-1)", x.seed(-1), Long.MIN_VALUE);
    due("seed(0)", x.seed(0), -1);
    due("no act", x.count(9), 0);
  }

  private static void drawn() {
    promise = 26;
    LoneSeats x = hall("Hr1555555r15|5|5|5|5|5");
    due("drawn(0)", x.drawn(0), OUTSIDE);
    due("drawn(21)", x.drawn(21), OUTSIDE);
    due("drawn least", x.drawn(LEAST), OUTSIDE);
    due("the seed is still 0", x.seed(0), 0);
    // The seed becomes 1442695040888963407, v is 167951807, 3 modulo 4: but nobody is seated.
    due("drawn(1)", x.drawn(1), 0);
    due("the seed", x.seed(0), 1442695040888963407L);
    x.seed(seedBefore(4 * 1));
    due("size 2", x.drawn(1), 2);
    due("the seed", x.seed(0), 4L << 33);
    due("nothing else is changed", x.count(2), 0);
    due("no act", x.count(9), 0);
    LoneSeats y = hall("Hr255");
    y.ask(2, 9);
    y.fee(1);
    // A seed that makes v = 3: the one seated party gives back 2 * 2 - 2 * 1.
    y.seed(seedBefore(3));
    due("a return", y.drawn(1), -2);
    due("the party stays", y.party(1, 2), 1);
    y.giveBack(1);
    y.seed(seedBefore(3));
    due("a return without seated parties", y.drawn(1), 0);
    for (int i = 0; i < 5; i++) y.ask(6, 9);
    y.seed(seedBefore(4 * 2));
    due("size 3, with five waiting", y.drawn(1), 0);
    y.seed(seedBefore(4 * 1 + 24 * 1));
    due("size 2 and limit 2", y.drawn(1), 4);
    y.seed(seedBefore(4 * 1));
    due("size 2 and limit 1", y.drawn(1), 0);
    LoneSeats z = hall("Hr1555");
    z.seed(seedBefore(4 * 1 + 24 * 8));
    due("size 2, would leave a lone seat", z.drawn(1), 0);
    due("the most events", z.drawn(20) == OUTSIDE ? 1 : 0, 0);
    drawnReturns();
  }

  private static void drawnReturns() {
    LoneSeats x = hall("Hr15r25r35r45");
    parties(x, "11 29 12 13 14 19");
    // Seated are 1, 3, 4 and 5, each in a row of its own; 2 and 6 wait.
    int[] pays = {1, 2, 3, 4};
    for (int i = 0; i < 8; i++) {
      x.seed(seedBefore(3 + 4 * i));
      // Party 6 is let in there and pays the same price.
      due("a return of the index " + i % 4, x.drawn(1), 0);
    }
    x.leave(6);
    for (int i = 0; i < 8; i++) {
      x.seed(seedBefore(3 + 4 * i));
      due("a return of the index " + i % 4, x.drawn(1), -pays[i % 4]);
    }
  }

  /** The seed from which drawn() comes to this v: the step is turned back by the factor's inverse. */
  private static long seedBefore(long v) {
    long inverse = 1;
    for (int i = 0; i < 6; i++) inverse *= 2 - 6364136223846793005L * inverse;
    return ((v << 33) - 1442695040888963407L) * inverse;
  }

  private static void keep() {
    promise = 27;
    LoneSeats x = hall("Hr155|5");
    due("keep(-1)", x.keep(-1), UNKNOWN);
    due("keep(2)", x.keep(2), UNKNOWN);
    due("keep(0)", x.keep(0), 0);
    parties(x, "29 39");
    due("keep(1)", x.keep(1), 2);
    due("no act", x.count(9), 2);
    due("again(0)", x.again(0), 0);
    due("free seats", x.row(0, 3), 7);
    due("again(1)", x.again(1), 2);
    due("free seats", x.row(0, 3), 4);
    x.fee(5);
    due("keep(1) in place of it", x.keep(1), 2);
    x.fee(6);
    x.again(1);
    due("the fee", x.count(7), 5);
    keepAllParties();
  }

  private static void keepAllParties() {
    LoneSeats x = hall("Hr155");
    for (int p = 1; p <= 30; p++) {
      x.giveBack(p - 1);
      x.ask(2, 1 + p % 9);
    }
    due("keep(0)", x.keep(0), 30);
    x.hall();
    due("hall() empties it", x.again(0), STATE);
    for (int p = 1; p <= 30; p++) {
      x.giveBack(p - 1);
      x.ask(2, 1 + p % 9);
    }
    x.keep(0);
    x.giveBack(30);
    for (int i = 0; i < 13; i++) x.undo();
    x.ask(1, 1);
    due("again(0)", x.again(0), 30);
    for (int p = 1; p <= 30; p++) {
      due("party(" + p + ", 0)", x.party(p, 0), 2);
      due("party(" + p + ", 1)", x.party(p, 1), 1 + p % 9);
      due("party(" + p + ", 2)", x.party(p, 2), p == 30 ? 1 : 0);
      due("party(" + p + ", 5)", x.party(p, 5), p == 30 ? 2 : 0);
    }
  }

  private static void again() {
    promise = 28;
    LoneSeats x = hall("Hr255r355");
    due("again(-1)", x.again(-1), UNKNOWN);
    due("again(2)", x.again(2), UNKNOWN);
    due("again(1)", x.again(1), STATE);
    parties(x, "29 69");
    x.keep(1);
    due("again(0)", x.again(0), STATE);
    x.fee(4);
    x.price(0, 9);
    x.leave(2);
    x.giveBack(1);
    x.see(0, 0, 1);
    due("again(1)", x.again(1), 2);
    due("party 1", x.party(1, 2), 1);
    due("party 2", x.waits(0), 2);
    due("the price", x.row(0, 0), 2);
    due("the fee", x.count(7), 0);
    due("takings", x.count(8), 4);
    due("acts", x.count(9), 0);
    due("undo()", x.undo(), STATE);
    due("observations", x.count(10), 1);
    x.giveBack(1);
    due("it stays in the slot", x.again(1), 2);
    due("party 1", x.party(1, 2), 1);
    x.giveBack(1);
    x.undo();
    due("undo() after again()", x.party(1, 2), 1);
  }

  private static void count() {
    promise = 29;
    LoneSeats x = hall("Hr1555r25|5");
    parties(x, "19 19 69 69");
    // Party 1 has seat 0 of row 0, party 2 seat 0 of row 1; the others wait.
    x.fee(3);
    x.see(0, 0, 1);
    x.see(0, 0, 1);
    int[] want = {11, 2, 4, 2, 2, 3, 1, 3, 3, 5, 2};
    for (int what = 0; what <= 10; what++) due("count(" + what + ")", x.count(what), want[what]);
    due("count(11)", x.count(11), OUTSIDE);
    due("count(-1)", x.count(-1), OUTSIDE);
    due("count least", x.count(LEAST), OUTSIDE);
  }
}
