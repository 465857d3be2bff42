import java.lang.management.ManagementFactory;

/** All calls of a run live in one room: the dearest calls, 512 of them, make next to nothing. */
public final class RoomTest {
  private static final long A_CALL = 64;
  private static final long AN_OBJECT = 8000;

  private static final Due due = new Due("RoomTest");
  private static final com.sun.management.ThreadMXBean room =
      (com.sun.management.ThreadMXBean) ManagementFactory.getThreadMXBean();
  private static int sum;

  public static void main(String[] args) {
    new HandedLabels();
    taken();
    long ahead = taken();
    HandedLabels x = new HandedLabels();
    due.yes("a new object takes little", taken() - ahead < AN_OBJECT);
    fill(x);
    ahead = taken();
    for (int i = 0; i < 50; i++) {
      x.setting(0, i & 1);
      x.cost(i % 12, 1 + i % 9);
      x.up(i % 12, 1 - (i & 1));
      x.end(i & 3, i % 7);
      x.mode(i % 7, i & 3, i >> 2 & 1);
      sum += x.settles() + x.ticks(20) + x.letter(i % 7, i & 3) + x.served(i & 3, 2)
          + x.many(2) + x.many(6) + x.merged(i % 7, i & 3) + x.meaning(0, 0, 16);
    }
    due.yes("512 calls take little", taken() - ahead < 512 * A_CALL);
    due.finish();
  }

  private static void fill(HandedLabels x) {
    for (int a = 0; a < 7; a++) {
      for (int b = a + 1; b < 7; b++) {
        x.link(a, b, 1 + (a + b) % 9);
      }
    }
    for (int c = 0; c < 4; c++) {
      x.end(c, c + 2);
    }
  }

  private static long taken() {
    return room.getThreadAllocatedBytes(Thread.currentThread().getId());
  }
}
