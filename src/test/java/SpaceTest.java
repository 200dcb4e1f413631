import java.lang.management.ManagementFactory;

/** All objects are made with the LoneSeats object: no later call makes one, and the object is small. */
public final class SpaceTest {
  private static final int ROUNDS = 2000;
  /** The measuring makes some objects; one object a round would make 32,000 bytes or more. */
  private static final long BYTES_OF_MEASURING = 10_000;
  /** Far above what one object has, and far below what many of them may have in one room. */
  private static final long BYTES_AN_OBJECT = 32_000;
  private static final String TEXT = "Hr15|55|5555r2123456789r390|12|345r49|8|7|6|5|4|3|2|1";

  private static long allocated() {
    return ((com.sun.management.ThreadMXBean) ManagementFactory.getThreadMXBean())
        .getThreadAllocatedBytes(Thread.currentThread().getId());
  }

  private static long calls(LoneSeats x) {
    long sum = x.wipe();
    for (int i = 0; i < TEXT.length(); i++) sum += x.write(TEXT.charAt(i));
    sum += x.fault() + x.hall();
    for (int i = 0; i < 34; i++) sum += x.ask(1 + i % 6, 1 + i * 7 % 9);
    for (int i = 0; i < 30; i++) sum += x.shift(i) + x.giveBack(i + 2) + x.leave(i) + x.fee(i % 10);
    for (int i = 0; i < 9; i++) {
      sum += x.price(i % 4, i) + x.best(2, 9, i % 3) + x.room(1 + i % 6) + x.waits(i) + x.see(1, i, i % 2);
      sum += x.share(i % 4, 1 + i % 6, i % 2 == 0) + x.away(i % 4, i, i, i % 2 == 0) + x.which();
      sum += x.judge(4, 129302205501L + i) + x.row(i % 4, i % 5) + x.seat(1, i, 2) + x.party(i, 3);
      sum += x.drawn(20) + x.keep(i % 2) + x.again(i % 2) + x.count(i) + x.undo();
    }
    return sum + x.unsee() + x.seed(5);
  }

  public static void main(String[] args) {
    LoneSeats x = new LoneSeats();
    long sum = calls(x);
    long before = allocated();
    LoneSeats y = new LoneSeats();
    long made = allocated() - before;
    before = allocated();
    for (int i = 0; i < ROUNDS; i++) sum += calls(x);
    long later = allocated() - before;
    System.out.println("an object has " + made + " bytes, " + ROUNDS + " rounds of calls made " + later
        + " more (" + (sum + y.count(0)) + ")");
    if (made > BYTES_AN_OBJECT || later > BYTES_OF_MEASURING) System.exit(1);
  }
}
