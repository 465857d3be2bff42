/** Promises 17 to 21: letters. */
public final class LettersTest {
  private static final int UNKNOWN = -1, OUTSIDE = -2, NONE = -9;
  private static final int ASKED = 0, SPARING = 1, LINKWISE = 2, EARLY = 3;
  private static final int[] NO_BOX = {-1, 7, Integer.MIN_VALUE, Integer.MAX_VALUE, -9};
  private static final int[] NO_CLASS = {-1, 4, Integer.MIN_VALUE, Integer.MAX_VALUE, -9};

  private static final Due due = new Due("LettersTest");

  public static void main(String[] args) {
    promise17();
    lostWithoutMeaning();
    lostWithNothingUsed();
    linkwiseOnTheWay();
    takenOffEarly();
    longestWay();
    promise18();
    promise19();
    bareBetween();
    promise20();
    promise21();
    due.finish();
  }

  /** 0 - 1 - 2 - 3 by LINKS 0, 1, 2; the END of CLASS 0 is 3. */
  private static HandedLabels line() {
    HandedLabels x = new HandedLabels();
    x.link(0, 1, 1);
    x.link(1, 2, 1);
    x.link(2, 3, 1);
    x.end(0, 3);
    return x;
  }

  /** The way that was told last: BOX, LABEL, BOX, LABEL .., and nothing after it. */
  private static void way(HandedLabels x, String what, int... hops) {
    for (int k = 0; k <= 14; k++) {
      boolean was = 2 * k < hops.length;
      due.is(what + ": BOX " + k, x.trace(k, 0), was ? hops[2 * k] : NONE);
      due.is(what + ": LABEL " + k, x.trace(k, 1), was ? hops[2 * k + 1] : NONE);
    }
  }

  private static void promise17() {
    HandedLabels x = line();
    due.is("17: at its END", x.letter(3, 0), 0);
    way(x, "17: at its END", 3, 0);
    due.is("17: without any LABEL", x.letter(0, 0), 0);
    way(x, "17: without any LABEL", 0, 0, 1, 0, 2, 0, 3, 0);
    x.ticks(2);
    due.is("17: a LABEL further on", x.letter(0, 0), 0);
    way(x, "17: a LABEL further on", 0, 0, 1, 0, 2, 16, 3, 16);
    x.end(1, 3);
    x.ticks(8);
    due.is("17: LABELS all along", x.letter(0, 1), 0);
    way(x, "17: LABELS all along", 0, 0, 1, 17, 2, 17, 3, 17);
    due.is("17: no END", x.letter(0, 2), 1);
    way(x, "17: no END", 0, 0);
    due.is("17: no way", x.letter(6, 0), 1);
    way(x, "17: no way", 6, 0);
    x.up(1, 0);
    due.is("17: LOST at the start", x.letter(0, 0), 1);
    way(x, "17: LOST at the start", 0, 0);
    due.is("17: on the other side", x.letter(2, 0), 0);
    way(x, "17: on the other side", 2, 0, 3, 16);
    for (int out : NO_BOX) {
      due.is("17: UNKNOWN BOX", x.letter(out, 0), UNKNOWN);
    }
    for (int out : NO_CLASS) {
      due.is("17: UNKNOWN CLASS", x.letter(0, out), UNKNOWN);
    }
    way(x, "17: refusals leave what was told", 2, 0, 3, 16);
  }

  private static void lostWithoutMeaning() {
    HandedLabels x = line();
    x.ticks(8);
    x.mode(2, LINKWISE, 1);
    due.is("17: nobody knows the LABEL", x.letter(0, 0), 2);
    way(x, "17: nobody knows the LABEL", 0, 0, 1, 16, 2, 16);
    due.is("17: from that BOX on", x.letter(2, 0), 0);
    x.ticks(1);
    due.is("17: after a TICK", x.letter(0, 0), 0);
    x.mode(3, LINKWISE, 1);
    due.is("17: even at the END", x.letter(2, 0), 2);
    way(x, "17: even at the END", 2, 0, 3, 16);
    due.is("17: but not without a LABEL", x.letter(3, 0), 0);
  }

  /** BOX 1 has kept from its NEXT alone, and gets another NEXT. */
  private static void lostWithNothingUsed() {
    HandedLabels x = new HandedLabels();
    x.link(0, 1, 1);
    x.link(1, 2, 1);
    x.link(2, 4, 1);
    x.link(1, 3, 2);
    x.link(3, 4, 1);
    x.end(0, 4);
    x.mode(1, SPARING, 1);
    x.ticks(8);
    due.is("17: by 2", x.letter(0, 0), 0);
    way(x, "17: by 2", 0, 0, 1, 16, 2, 16, 4, 16);
    x.up(2, 0);
    due.is("17: nothing USED", x.letter(0, 0), 3);
    way(x, "17: nothing USED", 0, 0, 1, 16);
    due.is("17: without a LABEL that is no harm", x.letter(1, 0), 0);
    way(x, "17: without a LABEL that is no harm", 1, 0, 3, 0, 4, 16);
    x.ticks(1);
    due.is("17: after a TICK LABEL 16 is 1's no more", x.letter(0, 0), 0);
    way(x, "17: 0 has nothing USED then", 0, 0, 1, 0, 3, 16, 4, 16);
    x.ticks(1);
    due.is("17: after two", x.letter(0, 0), 0);
    way(x, "17: after two", 0, 0, 1, 16, 3, 16, 4, 16);
  }

  /** BOX 1 gives the same number to two CLASSES, on different LINKS. */
  private static void linkwiseOnTheWay() {
    HandedLabels x = line();
    x.end(1, 0);
    x.mode(1, LINKWISE, 1);
    x.mode(1, ASKED, 1);
    x.ticks(8);
    due.is("17: LINKWISE", x.meaning(1, 0, 16), 0);
    due.is("17: LINKWISE", x.meaning(1, 1, 16), 1);
    due.is("17: LINKWISE, to the right", x.letter(0, 0), 0);
    way(x, "17: LINKWISE, to the right", 0, 0, 1, 16, 2, 16, 3, 16);
    due.is("17: LINKWISE, to the left", x.letter(3, 1), 0);
    way(x, "17: LINKWISE, to the left", 3, 0, 2, 17, 1, 16, 0, 16);
  }

  private static void takenOffEarly() {
    HandedLabels x = line();
    x.mode(3, EARLY, 1);
    x.ticks(8);
    due.is("17: EARLY", x.letter(0, 0), 0);
    way(x, "17: EARLY", 0, 0, 1, 16, 2, 16, 3, 0);
    due.is("17: EARLY, one off", x.letter(2, 0), 0);
    way(x, "17: EARLY, one off", 2, 0, 3, 0);
    x.mode(3, LINKWISE, 1);
    due.is("17: EARLY needs no meaning", x.letter(0, 0), 0);
    x.link(3, 4, 1);
    x.end(0, 4);
    due.is("17: the END goes on", x.letter(0, 0), 0);
    way(x, "17: the END goes on", 0, 0, 1, 16, 2, 16, 3, 0, 4, 0);
  }

  private static void longestWay() {
    HandedLabels x = new HandedLabels();
    for (int box = 0; box < 6; box++) {
      x.link(box, box + 1, 1);
    }
    x.end(2, 6);
    x.ticks(7);
    due.is("17: through all", x.letter(0, 2), 0);
    way(x, "17: through all", 0, 0, 1, 16, 2, 16, 3, 16, 4, 16, 5, 16, 6, 16);
    x.setting(1, 3);
    x.ticks(1);
    due.is("17: LIMIT 3", x.letter(0, 2), 0);
    way(x, "17: LIMIT 3", 0, 0, 1, 0, 2, 0, 3, 16, 4, 16, 5, 16, 6, 16);
  }

  private static void promise18() {
    HandedLabels x = line();
    way(x, "18: none told yet");
    x.letter(9, 0);
    way(x, "18: refused");
    x.ticks(8);
    x.letter(1, 0);
    way(x, "18: told", 1, 0, 2, 16, 3, 16);
    x.end(0, NONE);
    x.ticks(1);
    x.served(0, 0);
    x.served(0, 2);
    way(x, "18: as it was told", 1, 0, 2, 16, 3, 16);
    x.letter(2, 0);
    way(x, "18: a shorter one", 2, 0);
    for (int out : new int[] {-1, 15, Integer.MIN_VALUE, Integer.MAX_VALUE}) {
      due.is("18: OUTSIDE", x.trace(out, 0), OUTSIDE);
    }
    for (int out : new int[] {-1, 2, Integer.MIN_VALUE, Integer.MAX_VALUE}) {
      due.is("18: OUTSIDE", x.trace(0, out), OUTSIDE);
      due.is("18: OUTSIDE ahead of NONE", x.trace(14, out), OUTSIDE);
    }
  }

  private static void promise19() {
    HandedLabels x = line();
    due.is("19: THERE without LABELS", x.served(0, 0), 0b1111);
    due.is("19: LOST", x.served(0, 1), 0b1110000);
    due.is("19: nothing between", x.served(0, 2), 0b1100);
    x.ticks(2);
    due.is("19: after two TICKS", x.served(0, 2), 0b1110);
    x.ticks(1);
    due.is("19: after three", x.served(0, 2), 0b1111);
    x.mode(1, LINKWISE, 1);
    due.is("19: 0 is LOST by its LABEL", x.served(0, 0), 0b1110);
    due.is("19: 0 is LOST by its LABEL", x.served(0, 1), 0b1110001);
    due.is("19: THERE alone counts", x.served(0, 2), 0b1110);
    due.is("19: no END", x.served(1, 1), 127);
    due.is("19: no END", x.served(1, 0), 0);
    for (int out : NO_CLASS) {
      due.is("19: UNKNOWN", x.served(out, 0), UNKNOWN);
      due.is("19: UNKNOWN ahead of OUTSIDE", x.served(out, 3), UNKNOWN);
    }
    for (int out : new int[] {-1, 3, Integer.MIN_VALUE, Integer.MAX_VALUE}) {
      due.is("19: OUTSIDE", x.served(0, out), OUTSIDE);
    }
  }

  private static void bareBetween() {
    HandedLabels x = line();
    x.mode(3, EARLY, 1);
    x.ticks(8);
    due.is("19: the last BOX may be bare", x.served(0, 2), 0b1111);
    x.link(3, 4, 1);
    x.end(0, 4);
    due.is("19: all are THERE", x.served(0, 0), 0b11111);
    due.is("19: bare at 3", x.served(0, 2), 0b11000);
    x.ticks(8);
    due.is("19: none bare", x.served(0, 2), 0b11111);
  }

  private static void promise20() {
    HandedLabels x = new HandedLabels();
    x.link(0, 3, 1);
    x.link(1, 3, 1);
    x.link(2, 3, 1);
    x.link(3, 4, 1);
    x.link(4, 5, 1);
    x.end(0, 5);
    due.is("20: nothing USED", x.merged(3, 0), 0);
    x.ticks(2);
    due.is("20: not yet", x.merged(3, 0), 0);
    due.is("20: the END's neighbour", x.merged(5, 0), 0b10000);
    due.is("20: 3 by 4", x.merged(4, 0), 0b1000);
    x.ticks(1);
    due.is("20: three merge", x.merged(3, 0), 0b111);
    due.is("20: nobody goes by 0", x.merged(0, 0), 0);
    x.up(1, 0);
    due.is("20: two are left", x.merged(3, 0), 0b101);
    x.up(1, 1);
    due.is("20: nothing USED by 1", x.merged(3, 0), 0b101);
    due.is("20: another CLASS", x.merged(3, 1), 0);
    x.mode(5, EARLY, 1);
    x.ticks(1);
    due.is("20: LABEL 3 is something", x.merged(5, 0), 0b10000);
    due.is("20: the last BOX", x.merged(6, 0), 0);
    for (int out : NO_BOX) {
      due.is("20: UNKNOWN BOX", x.merged(out, 0), UNKNOWN);
    }
    for (int out : NO_CLASS) {
      due.is("20: UNKNOWN CLASS", x.merged(0, out), UNKNOWN);
    }
  }

  private static void promise21() {
    HandedLabels x = line();
    x.end(1, 3);
    x.end(3, 0);
    int[] first = {3, 3, 0, 0, 3, 0, 0};
    many(x, "21: at first", first);
    x.ticks(1);
    many(x, "21: a TICK", 3, 3, 3, 3, 3, 1, 17);
    x.ticks(7);
    many(x, "21: eight", 3, 3, 18, 18, 3, 8, 18);
    x.mode(1, SPARING, 1);
    x.ticks(1);
    many(x, "21: SPARING", 3, 3, 18, 15, 3, 9, 18);
    x.up(2, 0);
    many(x, "21: DOWN", 3, 2, 12, 9, 3, 9, 18);
    x.end(0, NONE);
    x.end(1, NONE);
    x.ticks(2);
    many(x, "21: CLASS 3 alone", 3, 2, 4, 3, 1, 11, 18);
    x.settles();
    x.ticks(0);
    many(x, "21: no TICK by settles()", 3, 2, 4, 3, 1, 11, 18);
    HandedLabels y = new HandedLabels();
    y.link(0, 1, 1);
    y.end(2, 1);
    y.mode(1, EARLY, 1);
    y.mode(0, ASKED, 1);
    y.ticks(20);
    many(y, "21: 3 is a LABEL too", 1, 1, 1, 1, 1, 20, 3);
    for (int out : new int[] {-1, 7, Integer.MIN_VALUE, Integer.MAX_VALUE}) {
      due.is("21: OUTSIDE", y.many(out), OUTSIDE);
    }
  }

  private static void many(HandedLabels x, String what, int... wants) {
    for (int k = 0; k < wants.length; k++) {
      due.is(what + ": many(" + k + ")", x.many(k), wants[k]);
    }
  }
}
