/** Nets that several tests begin with. */
final class Nets {
  static final int UNKNOWN = -1, OUTSIDE = -2, STATE = -3, FULL = -4, NONE = -9;
  static final int ASKED = 0, SPARING = 1, LINKWISE = 2, EARLY = 3;
  static final int ORDERED = 0, LIMIT = 1;

  private Nets() {}

  /** BOXES 0 .. boxes - 1 in a row: LINK k between k and k + 1, each of COST 1. No END. */
  static HandedLabels line(int boxes) {
    HandedLabels x = new HandedLabels();
    for (int box = 0; box + 1 < boxes; box++) {
      x.link(box, box + 1, 1);
    }
    return x;
  }

  /** The line, with CLASS 0 at its last BOX, till nothing changes. */
  static HandedLabels settledLine(int boxes) {
    HandedLabels x = line(boxes);
    x.end(0, boxes - 1);
    x.ticks(20);
    return x;
  }

  /**
   * All 12 LINKS: BOX 6 in the middle, LINK k between it and k, COST 2; the others in a ring, LINK
   * 6 + k between k and the one after it, COST 9. No END.
   */
  static HandedLabels wheel() {
    HandedLabels x = new HandedLabels();
    for (int box = 0; box < 6; box++) {
      x.link(box, 6, 2);
    }
    for (int box = 0; box < 6; box++) {
      x.link(box, (box + 1) % 6, 9);
    }
    return x;
  }

  /** The wheel, with all CLASSES at BOX 6, till nothing changes: every place is filled. */
  static HandedLabels settledWheel() {
    HandedLabels x = wheel();
    for (int c = 0; c < 4; c++) {
      x.end(c, 6);
    }
    x.ticks(20);
    return x;
  }

  /**
   * BOXES 0 .. 4, six LINKS, with something of everything: MODES, SETTINGS, a LINK that is DOWN,
   * TICKS, a LETTER, and an END that came since, so that a TICK has something to do.
   */
  static HandedLabels busy() {
    HandedLabels x = line(3);
    x.link(1, 3, 2);
    x.link(2, 4, 5);
    x.link(3, 4, 1);
    x.link(0, 4, 9);
    x.end(0, 4);
    x.end(1, 0);
    x.end(3, 2);
    x.mode(1, LINKWISE, 1);
    x.mode(2, SPARING, 1);
    x.mode(3, ASKED, 1);
    x.mode(4, EARLY, 1);
    x.setting(ORDERED, 0);
    x.setting(LIMIT, 5);
    x.ticks(3);
    x.up(5, 0);
    x.letter(0, 0);
    x.end(2, 1);
    return x;
  }
}
