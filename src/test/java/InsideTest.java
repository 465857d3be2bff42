import java.lang.reflect.Field;

/**
 * Sentences of the document that no run of calls reaches (why: NOTES.md). The class has them, so
 * the state that would lead there is set by hand, in the rows in which the class holds it: a LABEL
 * that means another CLASS at the next BOX, and a NEXT that goes in a ring. How the state is held is
 * free: a class that holds it otherwise is told to be so, and nothing is asked.
 */
public final class InsideTest {
  private static final int NONE = Nets.NONE;
  private static final int CLASSES = 4;
  private static final int NO_SIDE = -1;

  private static final Due due = new Due("InsideTest");

  public static void main(String[] args) throws Exception {
    if (!heldAsHere()) {
      System.out.println("InsideTest: nothing asked, the class holds its state otherwise");
      return;
    }
    Cases.run(InsideTest.class, due, 16, 17, 18, 19);
  }

  private static boolean heldAsHere() throws Exception {
    HandedLabels x = new HandedLabels();
    try {
      row(x, "net", "nextSides");
      row(x, "labels", "slipsHanded");
      row(x, "labels", "slipsKept");
      row(x, "labels", "fresh");
      return true;
    } catch (NoSuchFieldException e) {
      return false;
    }
  }

  private static int[] row(HandedLabels x, String part, String name) throws Exception {
    Field whole = HandedLabels.class.getDeclaredField(part);
    whole.setAccessible(true);
    Object inside = whole.get(x);
    Field held = inside.getClass().getDeclaredField(name);
    held.setAccessible(true);
    return (int[]) held.get(inside);
  }

  private static int side(HandedLabels x, int box, int l) {
    return 2 * l + (x.ofLink(l, 0) == box ? 0 : 1);
  }

  private static int slot(HandedLabels x, int box, int l, int c) {
    return side(x, box, l) * CLASSES + c;
  }

  /** What a BOX has KEPT over a LINK for a CLASS becomes what the other end hands for another. */
  private static void mixUp(HandedLabels x, int box, int l, int c, int other) throws Exception {
    int across = x.ofLink(l, 0) + x.ofLink(l, 1) - box;
    row(x, "labels", "slipsKept")[slot(x, box, l, c)] =
        row(x, "labels", "slipsHanded")[slot(x, across, l, other)];
  }

  /**
   * The longest line. A LETTER of CLASS 0 goes to BOX 6, there is taken for one of CLASS 1 and goes
   * back to BOX 0, there is taken for one of CLASS 2: over 12 LINKS till then.
   */
  private static HandedLabels thereAndBack(int endOfTwo) throws Exception {
    HandedLabels x = Nets.line(7);
    x.end(0, 6);
    x.end(1, 0);
    x.end(2, endOfTwo);
    x.ticks(20);
    mixUp(x, 5, 5, 0, 1);
    mixUp(x, 1, 0, 1, 2);
    return x;
  }

  /** BOXES 0 and 1, each the NEXT of the other for CLASS 0. */
  private static HandedLabels ring() throws Exception {
    HandedLabels x = Nets.line(2);
    int[] nexts = row(x, "net", "nextSides");
    nexts[0] = side(x, 0, 0);
    nexts[CLASSES] = side(x, 1, 0);
    return x;
  }

  // ---- promise 16

  static void promise16_noneIfEachTickChangesSomething() throws Exception {
    HandedLabels x = ring();
    x.setting(Nets.ORDERED, 0);
    due.is("COUNTS go round", x.settles(), NONE);
    due.is("nothing HANDED by it", x.many(2), 0);
    due.is("nothing KEPT by it", x.many(3), 0);
    due.is("no TICK by it", x.many(5), 0);
    due.is("each TICK changes something", x.ticks(20), 20);
  }

  /** COUNTS go 1 .. 7, nothing, 1 .. 7 ..: the row of the last TICK that was tried has the 30th. */
  static void promise16_thirtyTicksAreTried() throws Exception {
    HandedLabels x = ring();
    x.setting(Nets.ORDERED, 0);
    x.settles();
    int tried = row(x, "labels", "fresh")[slot(x, 0, 0, 0)];
    x.ticks(20);
    x.ticks(10);
    due.is("COUNT of the 30th", x.handed(0, 0, 0, 1), 6);
    due.is("COUNT of the last one tried", tried & 15, 6);
  }

  static void promise16_orderedSettlesEvenSo() throws Exception {
    due.is("nobody begins", ring().settles(), 0);
  }

  // ---- promise 17

  static void promise17_thereAfterFourteenLinks() throws Exception {
    HandedLabels x = thereAndBack(2);
    due.is("THERE", x.letter(0, 0), 0);
    due.is("at the last place", x.trace(14, 0), 2);
  }

  static void promise17_lostAfterFourteenLinks() throws Exception {
    HandedLabels x = thereAndBack(3);
    due.is("one further", x.letter(0, 0), 4);
    due.is("from one BOX on", x.letter(1, 0), 0);
    due.is("which was the last place", x.trace(14, 0), 3);
  }

  static void promise17_lostForItsLabelAfterFourteenLinks() throws Exception {
    HandedLabels x = thereAndBack(3);
    row(x, "labels", "slipsKept")[slot(x, 1, 1, 2)] = 99 * 16 + 1;
    due.is("LOST (2), not (4)", x.letter(0, 0), 2);
    due.is("with that LABEL", x.trace(14, 1), 99);
  }

  static void promise17_lostForNothingUsedAfterFourteenLinks() throws Exception {
    HandedLabels x = thereAndBack(3);
    row(x, "labels", "slipsKept")[slot(x, 2, 2, 2)] = 0;
    due.is("LOST (3), not (4)", x.letter(0, 0), 3);
  }

  static void promise17_lostWithoutNextAfterFourteenLinks() throws Exception {
    HandedLabels x = thereAndBack(3);
    row(x, "net", "nextSides")[2 * CLASSES + 2] = NO_SIDE;
    due.is("LOST (1), not (4)", x.letter(0, 0), 1);
  }

  static void promise17_lostInARingWithoutALabel() throws Exception {
    HandedLabels x = ring();
    due.is("LOST", x.letter(0, 0), 4);
    due.is("it was at 15 BOXES", x.trace(14, 0), 0);
  }

  static void promise17_lostWithALabelWithoutNext() throws Exception {
    HandedLabels x = Nets.settledLine(3);
    row(x, "net", "nextSides")[CLASSES] = NO_SIDE;
    due.is("nothing is USED then either", x.used(1, 0), NONE);
    due.is("LOST (1), ahead of (3)", x.letter(0, 0), 1);
    due.is("with its LABEL", x.trace(1, 1), 16);
  }

  static void promise17_thereAtTheEndOfTheLabelsClass() throws Exception {
    HandedLabels x = Nets.line(3);
    x.end(0, 2);
    x.end(1, 1);
    x.ticks(5);
    mixUp(x, 0, 0, 0, 1);
    due.is("THERE", x.letter(0, 0), 0);
    due.is("at the END of CLASS 1", x.trace(1, 0), 1);
    due.is("and no further", x.trace(2, 0), NONE);
  }

  static void promise17_notThereAtTheEndOfItsOwnClassWithAnothersLabel() throws Exception {
    HandedLabels x = Nets.line(3);
    x.end(0, 1);
    x.end(1, 2);
    x.ticks(5);
    mixUp(x, 0, 0, 0, 1);
    due.is("THERE", x.letter(0, 0), 0);
    due.is("at the END of CLASS 1", x.trace(2, 0), 2);
  }

  /** With CLASS 1's END EARLY: bare at BOX 0, of CLASS 0 again, so it is not THERE but sets out. */
  static void promise17_ofItsOwnClassAgainWhenTakenOff() throws Exception {
    HandedLabels x = Nets.line(7);
    x.mode(0, Nets.EARLY, 1);
    x.end(0, 6);
    x.end(1, 0);
    x.ticks(20);
    mixUp(x, 5, 5, 0, 1);
    due.is("LOST", x.letter(0, 0), 4);
    due.is("bare at 0", x.trace(12, 1), 0);
    due.is("back at 0", x.trace(12, 0), 0);
    due.is("then at 1", x.trace(13, 0), 1);
  }

  // ---- promise 18

  static void promise18_theLastPlaceIsTold() throws Exception {
    HandedLabels x = thereAndBack(3);
    x.letter(0, 0);
    for (int k = 0; k <= 14; k++) {
      due.is("BOX " + k, x.trace(k, 0), k <= 6 ? k : k <= 12 ? 12 - k : k - 12);
    }
    due.is("its LABEL", x.trace(14, 1), x.handed(2, 1, 2, 0));
    due.is("no place beyond", x.trace(15, 0), Nets.OUTSIDE);
  }

  // ---- promise 19

  static void promise19_lostForTooManyLinksIsLost() throws Exception {
    HandedLabels x = thereAndBack(3);
    due.is("LOST", x.served(0, 1), 0b1);
    due.is("THERE", x.served(0, 0), 0b1111110);
  }
}
