import java.lang.management.ManagementFactory;

/**
 * All calls of a run live in one room: 600,000 objects, 7.3 million fields and elements. An object
 * takes 16 bytes at least and a field or element one, so that what takes fewer bytes than the room
 * has elements fits into it, whatever it is made of.
 */
public final class RoomTest {
  private static final long ROOM = 7_300_000;
  private static final int CALLS = 512;

  private static final Due due = new Due("RoomTest");
  private static final com.sun.management.ThreadMXBean room =
      (com.sun.management.ThreadMXBean) ManagementFactory.getThreadMXBean();
  private static int sum;

  public static void main(String[] args) {
    full().settles();
    taken();
    fits("ticks", RoomTest::ticks);
    fits("settles", RoomTest::settles);
    fits("letters", RoomTest::letters);
    fits("changes of the net", RoomTest::changes);
    fits("a bit of all", RoomTest::all);
    due.finish();
  }

  private interface Run {
    void go(HandedLabels x, int i);
  }

  private static void fits(String what, Run run) {
    long ahead = taken();
    HandedLabels x = full();
    for (int i = 0; i < CALLS; i++) {
      run.go(x, i);
    }
    due.yes(what + " fit into the room: " + (taken() - ahead), taken() - ahead < ROOM);
  }

  private static void ticks(HandedLabels x, int i) {
    sum += x.ticks(20);
  }

  private static void settles(HandedLabels x, int i) {
    sum += x.settles();
  }

  private static void letters(HandedLabels x, int i) {
    sum += x.served(i & 3, 2);
  }

  private static void changes(HandedLabels x, int i) {
    sum += x.up(i % 12, i / 12 & 1);
  }

  private static void all(HandedLabels x, int i) {
    switch (i % 9) {
      case 0: sum += x.cost(i % 12, 1 + i % 9); break;
      case 1: sum += x.end(i & 3, i % 7); break;
      case 2: sum += x.mode(i % 7, i & 3, i >> 2 & 1); break;
      case 3: sum += x.setting(0, i & 1); break;
      case 4: sum += x.settles() + x.ticks(20); break;
      case 5: sum += x.letter(i % 7, i & 3) + x.trace(i % 15, 0); break;
      case 6: sum += x.many(i % 7); break;
      case 7: sum += x.merged(i % 7, i & 3); break;
      default: sum += x.meaning(0, 0, 16);
    }
  }

  /** All LINKS, all ENDS. */
  private static HandedLabels full() {
    HandedLabels x = Nets.wheel();
    for (int c = 0; c < 4; c++) {
      x.end(c, c + 2);
    }
    return x;
  }

  private static long taken() {
    return room.getThreadAllocatedBytes(Thread.currentThread().getId());
  }
}
