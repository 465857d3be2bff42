/** Promises 1 to 8: a new object and the net. */
public final class NetTest {
  private static final int UNKNOWN = -1, OUTSIDE = -2, STATE = -3, FULL = -4, NONE = -9;
  private static final int[] FAR_OUT = {-1, Integer.MIN_VALUE, Integer.MAX_VALUE, -9};

  private static final Due due = new Due("NetTest");

  public static void main(String[] args) {
    promise1();
    promise2();
    promise2Full();
    promise3();
    promise4();
    promise5();
    promise6();
    promise7And8();
    promise7LeastBox();
    promise8OtherWays();
    due.finish();
  }

  private static void promise1() {
    HandedLabels x = new HandedLabels();
    for (int what = 0; what <= 6; what++) {
      due.is("1: many(" + what + ")", x.many(what), 0);
    }
    for (int c = 0; c < 4; c++) {
      for (int box = 0; box < 7; box++) {
        due.is("1: far", x.far(box, c), NONE);
        due.is("1: next", x.next(box, c), NONE);
        due.is("1: used", x.used(box, c), NONE);
        due.is("1: merged", x.merged(box, c), 0);
      }
      due.is("1: served 1", x.served(c, 1), 127);
      due.is("1: letter", new HandedLabels().letter(c, c), 1);
      due.is("1: end(" + c + ", NONE)", x.end(c, NONE), NONE);
    }
    for (int box = 0; box < 7; box++) {
      for (int which = 0; which < 4; which++) {
        due.is("1: mode at first", x.mode(box, which, 0), 0);
      }
    }
    due.is("1: ORDERED at first", x.setting(0, 1), 1);
    due.is("1: LIMIT at first", x.setting(1, 7), 7);
    due.is("1: settles", x.settles(), 0);
    for (int k = 0; k <= 14; k++) {
      due.is("1: trace", x.trace(k, 0), NONE);
      due.is("1: trace", x.trace(k, 1), NONE);
    }
    HandedLabels y = new HandedLabels();
    x.link(0, 1, 1);
    x.end(0, 1);
    due.is("1: another object's LINKS", y.many(0), 0);
    due.is("1: another object's ENDS", y.many(4), 0);
  }

  private static void promise2() {
    HandedLabels x = new HandedLabels();
    due.is("2: the first", x.link(6, 0, 9), 0);
    due.is("2: the second", x.link(0, 1, 1), 1);
    due.is("2: comes UP", x.ofLink(0, 3), 1);
    due.is("2: its COST", x.ofLink(0, 2), 9);
    for (int out : new int[] {-1, 7, Integer.MIN_VALUE, Integer.MAX_VALUE, -9}) {
      due.is("2: no such first BOX", x.link(out, 2, 1), UNKNOWN);
      due.is("2: no such second BOX", x.link(2, out, 1), UNKNOWN);
      due.is("2: UNKNOWN ahead of OUTSIDE", x.link(out, 2, 0), UNKNOWN);
      due.is("2: UNKNOWN ahead of STATE", x.link(out, out, 1), UNKNOWN);
    }
    for (int out : new int[] {0, 10, -1, Integer.MIN_VALUE, Integer.MAX_VALUE}) {
      due.is("2: no such COST", x.link(2, 3, out), OUTSIDE);
      due.is("2: OUTSIDE ahead of STATE, one BOX", x.link(2, 2, out), OUTSIDE);
      due.is("2: OUTSIDE ahead of STATE, a LINK", x.link(0, 1, out), OUTSIDE);
    }
    due.is("2: one BOX twice", x.link(3, 3, 1), STATE);
    due.is("2: they have a LINK", x.link(0, 6, 1), STATE);
    due.is("2: they have a LINK, turned", x.link(1, 0, 1), STATE);
    x.up(1, 0);
    due.is("2: they have a LINK, DOWN", x.link(0, 1, 1), STATE);
    due.is("2: refusals change nothing", x.many(0), 2);
    due.is("2: numbers go on", x.link(1, 2, 1), 2);
  }

  private static void promise2Full() {
    HandedLabels x = new HandedLabels();
    int n = 0;
    for (int a = 0; a < 7 && n < 12; a++) {
      for (int b = a + 1; b < 7 && n < 12; b++) {
        due.is("2: number " + n, x.link(a, b, 1), n);
        n++;
      }
    }
    due.is("2: 12 at most", x.link(5, 6, 1), FULL);
    due.is("2: STATE ahead of FULL, one BOX", x.link(5, 5, 1), STATE);
    due.is("2: STATE ahead of FULL, a LINK", x.link(0, 1, 1), STATE);
    due.is("2: OUTSIDE ahead of FULL", x.link(5, 6, 10), OUTSIDE);
    due.is("2: UNKNOWN ahead of FULL", x.link(5, 7, 1), UNKNOWN);
    due.is("2: still 12", x.many(0), 12);
    due.is("2: no thirteenth", x.ofLink(12, 0), UNKNOWN);
    due.is("2: the last", x.ofLink(11, 3), 1);
  }

  private static void promise3() {
    HandedLabels x = new HandedLabels();
    due.is("3: no LINK yet", x.cost(0, 5), UNKNOWN);
    x.link(0, 1, 4);
    due.is("3: what it was", x.cost(0, 9), 4);
    due.is("3: what it was then", x.cost(0, 1), 9);
    due.is("3: what it is", x.ofLink(0, 2), 1);
    for (int out : new int[] {0, 10, -1, Integer.MIN_VALUE, Integer.MAX_VALUE}) {
      due.is("3: OUTSIDE", x.cost(0, out), OUTSIDE);
      due.is("3: UNKNOWN ahead of OUTSIDE", x.cost(1, out), UNKNOWN);
    }
    for (int out : FAR_OUT) {
      due.is("3: UNKNOWN", x.cost(out, 5), UNKNOWN);
    }
    due.is("3: refusals change nothing", x.ofLink(0, 2), 1);
    x.end(0, 1);
    due.is("3: FAR by the COST", x.far(0, 0), 1);
    x.cost(0, 8);
    due.is("3: FAR by the new COST", x.far(0, 0), 8);
  }

  private static void promise4() {
    HandedLabels x = new HandedLabels();
    due.is("4: no LINK yet", x.up(0, 1), UNKNOWN);
    x.link(0, 1, 4);
    x.end(0, 1);
    due.is("4: was UP, stays so", x.up(0, 1), 1);
    due.is("4: was UP", x.up(0, 0), 1);
    due.is("4: is DOWN", x.ofLink(0, 3), 0);
    due.is("4: no way", x.far(0, 0), NONE);
    due.is("4: was DOWN, stays so", x.up(0, 0), 0);
    for (int out : new int[] {2, -1, Integer.MIN_VALUE, Integer.MAX_VALUE}) {
      due.is("4: OUTSIDE", x.up(0, out), OUTSIDE);
      due.is("4: UNKNOWN ahead of OUTSIDE", x.up(1, out), UNKNOWN);
    }
    for (int out : FAR_OUT) {
      due.is("4: UNKNOWN", x.up(out, 1), UNKNOWN);
    }
    due.is("4: refusals change nothing", x.ofLink(0, 3), 0);
    due.is("4: was DOWN", x.up(0, 1), 0);
    due.is("4: a way again", x.far(0, 0), 4);
    downForgets();
  }

  private static void downForgets() {
    HandedLabels x = new HandedLabels();
    x.link(0, 1, 1);
    x.link(1, 2, 1);
    x.end(0, 2);
    x.ticks(4);
    due.is("4: handed ahead", x.many(2), 4);
    x.up(1, 0);
    due.is("4: nothing HANDED over it", x.handed(2, 1, 0, 0), NONE);
    due.is("4: nothing HANDED over it, the other way", x.handed(1, 1, 0, 1), NONE);
    due.is("4: nothing KEPT over it", x.kept(1, 1, 0, 0), NONE);
    due.is("4: nothing KEPT over it, the other way", x.kept(2, 1, 0, 1), NONE);
    due.is("4: over others it stays", x.handed(1, 0, 0, 0), 16);
    due.is("4: KEPT over others stays", x.kept(0, 0, 0, 1), 1);
    due.is("4: two left", x.many(2), 2);
    due.is("4: two left KEPT", x.many(3), 2);
    x.up(1, 1);
    due.is("4: UP again, nothing is back", x.handed(2, 1, 0, 0), NONE);
    due.is("4: UP again, nothing KEPT", x.kept(1, 1, 0, 0), NONE);
    x.up(1, 1);
    due.is("4: UP twice changes nothing", x.many(2), 2);
    x.ticks(1);
    due.is("4: after a TICK", x.kept(1, 1, 0, 0), 16);
  }

  private static void promise5() {
    HandedLabels x = new HandedLabels();
    due.is("5: was none", x.end(0, 6), NONE);
    due.is("5: which it was", x.end(0, 0), 6);
    due.is("5: to none", x.end(0, NONE), 0);
    due.is("5: from none", x.end(0, 3), NONE);
    due.is("5: the last CLASS", x.end(3, 3), NONE);
    due.is("5: CLASSES with an END", x.many(4), 2);
    for (int out : new int[] {-1, 4, Integer.MIN_VALUE, Integer.MAX_VALUE, -9}) {
      due.is("5: UNKNOWN", x.end(out, 0), UNKNOWN);
      due.is("5: UNKNOWN ahead of OUTSIDE", x.end(out, 7), UNKNOWN);
    }
    for (int out : new int[] {-1, 7, -8, -10, Integer.MIN_VALUE, Integer.MAX_VALUE}) {
      due.is("5: OUTSIDE", x.end(0, out), OUTSIDE);
    }
    due.is("5: refusals change nothing", x.end(0, 3), 3);
    endLeavesLabels();
  }

  private static void endLeavesLabels() {
    HandedLabels x = new HandedLabels();
    x.link(0, 1, 1);
    x.end(0, 1);
    x.ticks(3);
    due.is("5: handed ahead", x.many(2), 2);
    x.end(0, NONE);
    due.is("5: HANDED stays", x.handed(1, 0, 0, 0), 16);
    due.is("5: KEPT stays", x.kept(0, 0, 0, 0), 16);
    due.is("5: nothing is USED without NEXT", x.used(0, 0), NONE);
    x.ticks(1);
    due.is("5: gone with the TICK", x.many(2), 0);
    due.is("5: KEPT gone with the TICK", x.many(3), 0);
  }

  private static void promise6() {
    HandedLabels x = new HandedLabels();
    due.is("6: no LINK yet", x.ofLink(0, 0), UNKNOWN);
    x.link(5, 2, 7);
    x.link(0, 6, 3);
    due.is("6: the lesser", x.ofLink(0, 0), 2);
    due.is("6: the greater", x.ofLink(0, 1), 5);
    due.is("6: COST", x.ofLink(0, 2), 7);
    due.is("6: UP", x.ofLink(0, 3), 1);
    due.is("6: the lesser of another", x.ofLink(1, 0), 0);
    due.is("6: the greater of another", x.ofLink(1, 1), 6);
    x.up(0, 0);
    due.is("6: DOWN", x.ofLink(0, 3), 0);
    due.is("6: the other one is UP", x.ofLink(1, 3), 1);
    for (int out : new int[] {-1, 4, Integer.MIN_VALUE, Integer.MAX_VALUE}) {
      due.is("6: OUTSIDE", x.ofLink(0, out), OUTSIDE);
      due.is("6: UNKNOWN ahead of OUTSIDE", x.ofLink(2, out), UNKNOWN);
    }
    for (int out : FAR_OUT) {
      due.is("6: UNKNOWN", x.ofLink(out, 0), UNKNOWN);
    }
  }

  /** A short LINK that costs more than the long way round. */
  private static void promise7And8() {
    HandedLabels x = new HandedLabels();
    x.link(0, 3, 9);
    x.link(0, 1, 2);
    x.link(1, 2, 3);
    x.link(2, 3, 3);
    x.end(1, 3);
    int[] far = {8, 6, 3, 0, NONE, NONE, NONE};
    int[] next = {1, 2, 3, NONE, NONE, NONE, NONE};
    for (int box = 0; box < 7; box++) {
      due.is("8: FAR of " + box, x.far(box, 1), far[box]);
      due.is("7: NEXT of " + box, x.next(box, 1), next[box]);
      due.is("8: of a CLASS without END", x.far(box, 0), NONE);
      due.is("7: of a CLASS without END", x.next(box, 0), NONE);
    }
    x.up(2, 0);
    due.is("8: over the other LINK", x.far(0, 1), 9);
    due.is("7: over the other LINK", x.next(0, 1), 3);
    due.is("8: back and round", x.far(1, 1), 11);
    due.is("7: back and round", x.next(1, 1), 0);
    due.is("8: not by a TICK, but now", x.far(2, 1), 3);
    for (int out : new int[] {-1, 7, Integer.MIN_VALUE, Integer.MAX_VALUE, -9}) {
      due.is("7: UNKNOWN BOX", x.next(out, 1), UNKNOWN);
      due.is("8: UNKNOWN BOX", x.far(out, 1), UNKNOWN);
    }
    for (int out : new int[] {-1, 4, Integer.MIN_VALUE, Integer.MAX_VALUE, -9}) {
      due.is("7: UNKNOWN CLASS", x.next(0, out), UNKNOWN);
      due.is("8: UNKNOWN CLASS", x.far(0, out), UNKNOWN);
    }
  }

  private static void promise7LeastBox() {
    HandedLabels x = new HandedLabels();
    x.link(6, 5, 1);
    x.link(6, 2, 2);
    x.link(6, 4, 3);
    x.link(0, 5, 4);
    x.link(2, 0, 3);
    x.link(4, 0, 2);
    x.end(2, 0);
    due.is("8: three ways of 5", x.far(6, 2), 5);
    due.is("7: of three alike the least BOX", x.next(6, 2), 2);
    x.cost(1, 3);
    due.is("7: of two alike the least BOX", x.next(6, 2), 4);
    x.cost(2, 4);
    due.is("7: the one that is left", x.next(6, 2), 5);
    due.is("7: the END has none", x.next(0, 2), NONE);
    due.is("8: the END itself", x.far(0, 2), 0);
    x.up(0, 0);
    due.is("8: without it", x.far(6, 2), 6);
    due.is("7: without it", x.next(6, 2), 2);
    x.end(2, 6);
    due.is("7: the other way", x.next(0, 2), 2);
  }

  private static void promise8OtherWays() {
    HandedLabels x = new HandedLabels();
    for (int box = 6; box > 0; box--) {
      x.link(box, box - 1, 9);
    }
    x.end(3, 0);
    for (int box = 0; box < 7; box++) {
      due.is("8: the longest line", x.far(box, 3), 9 * box);
      due.is("7: the longest line", x.next(box, 3), box == 0 ? NONE : box - 1);
    }
    x.end(3, 6);
    for (int box = 0; box < 7; box++) {
      due.is("8: the longest line, turned", x.far(box, 3), 9 * (6 - box));
    }
    x.up(2, 0);
    due.is("8: cut", x.far(3, 3), NONE);
    due.is("7: cut", x.next(3, 3), NONE);
    due.is("8: on this side", x.far(4, 3), 18);
  }
}
