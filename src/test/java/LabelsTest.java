/** Promises 9 to 16: labels. */
public final class LabelsTest {
  private static final int UNKNOWN = -1, OUTSIDE = -2, NONE = -9;
  private static final int ASKED = 0, SPARING = 1, LINKWISE = 2, EARLY = 3;
  private static final int[] NO_BOX = {-1, 7, Integer.MIN_VALUE, Integer.MAX_VALUE, -9};
  private static final int[] NO_CLASS = {-1, 4, Integer.MIN_VALUE, Integer.MAX_VALUE, -9};
  private static final int[] NOT_0_1 = {-1, 2, Integer.MIN_VALUE, Integer.MAX_VALUE, -9};

  private static final Due due = new Due("LabelsTest");

  public static void main(String[] args) {
    promise9();
    promise9Linkwise();
    promise10();
    promise11();
    ordered();
    freely();
    limitCuts();
    freelyLimit();
    asked();
    early();
    oneRowStays();
    rowFreesInTheSameTick();
    askedTakesNoLabel();
    linkwiseRows();
    linkwiseStays();
    sparing();
    promise12();
    promise13();
    promise14();
    promise15();
    promise15Linkwise();
    promise16();
    firstPlace();
    fullNet();
    due.finish();
  }

  /** 0 - 1 - 2 - 3 by LINKS 0, 1, 2; the END of CLASS 0 is 3. */
  private static HandedLabels line() {
    HandedLabels x = new HandedLabels();
    x.link(0, 1, 1);
    x.link(1, 2, 1);
    x.link(2, 3, 1);
    x.end(0, 3);
    return x;
  }

  private static void slip(HandedLabels x, String what, int box, int l, int c, int label, int count) {
    due.is(what + ": handed LABEL", x.handed(box, l, c, 0), label);
    due.is(what + ": handed COUNT", x.handed(box, l, c, 1), count);
  }

  private static void nothing(HandedLabels x, String what, int box, int l, int c) {
    slip(x, what, box, l, c, NONE, NONE);
  }

  private static void kept(HandedLabels x, String what, int box, int l, int c, int label, int count) {
    due.is(what + ": kept LABEL", x.kept(box, l, c, 0), label);
    due.is(what + ": kept COUNT", x.kept(box, l, c, 1), count);
  }

  private static void promise9() {
    HandedLabels x = line();
    for (int box = 0; box < 7; box++) {
      for (int which = 0; which < 4; which++) {
        due.is("9: at first", x.mode(box, which, 1), 0);
        due.is("9: what it was", x.mode(box, which, 1), 1);
        due.is("9: OUTSIDE", x.mode(box, which, 2), OUTSIDE);
        due.is("9: refusals change nothing", x.mode(box, which, 0), 1);
        due.is("9: what it was then", x.mode(box, which, 0), 0);
      }
    }
    for (int out : NO_BOX) {
      due.is("9: UNKNOWN", x.mode(out, 0, 0), UNKNOWN);
      due.is("9: UNKNOWN ahead of OUTSIDE", x.mode(out, 4, 2), UNKNOWN);
    }
    for (int out : NO_CLASS) {
      due.is("9: no such MODE", x.mode(0, out, 0), OUTSIDE);
    }
    for (int out : NOT_0_1) {
      due.is("9: no such value", x.mode(0, 0, out), OUTSIDE);
    }
  }

  private static void promise9Linkwise() {
    HandedLabels x = line();
    x.ticks(6);
    for (int which : new int[] {ASKED, SPARING, EARLY}) {
      x.mode(1, which, 1);
      slip(x, "9: another MODE leaves what is HANDED", 1, 0, 0, 16, 2);
      x.mode(1, which, 0);
    }
    x.mode(1, LINKWISE, 0);
    slip(x, "9: LINKWISE as ahead", 1, 0, 0, 16, 2);
    x.mode(1, LINKWISE, 1);
    nothing(x, "9: LINKWISE another one", 1, 0, 0);
    nothing(x, "9: LINKWISE another one", 1, 1, 0);
    kept(x, "9: KEPT stays", 0, 0, 0, 16, 2);
    slip(x, "9: others hand as ahead", 2, 1, 0, 16, 1);
    kept(x, "9: what it KEPT stays", 1, 1, 0, 16, 1);
    due.is("9: a TICK hands again", x.ticks(1), 1);
    slip(x, "9: after the TICK", 1, 0, 0, 16, 2);
    x.mode(1, LINKWISE, 1);
    slip(x, "9: LINKWISE 1 as ahead", 1, 0, 0, 16, 2);
    x.mode(1, LINKWISE, 0);
    nothing(x, "9: LINKWISE back", 1, 0, 0);
  }

  /** The first BOX on the first LINK for the first CLASS, which a count from 1 on would miss. */
  private static void firstPlace() {
    HandedLabels x = new HandedLabels();
    x.link(0, 1, 1);
    x.end(0, 0);
    x.mode(1, ASKED, 1);
    x.mode(0, LINKWISE, 1);
    x.ticks(3);
    slip(x, "11: the first place, LINKWISE", 0, 0, 0, 16, 0);
    due.is("21: one LABEL in all", x.many(6), 16);
    due.is("21: one HANDED in all", x.many(2), 1);
    due.is("15: 1 does not hand it", x.meaning(1, 0, 16), NONE);
    x.mode(0, LINKWISE, 0);
    nothing(x, "9: the first place", 0, 0, 0);
    x.end(0, 1);
    x.mode(1, ASKED, 0);
    x.ticks(1);
    slip(x, "11: the other end", 1, 0, 0, 16, 0);
    due.is("15: 0 does not hand it", x.meaning(0, 0, 16), NONE);
  }

  /** BOX 6 in the middle of 0 .. 5, which stand in a ring: all 12 LINKS. */
  private static void fullNet() {
    HandedLabels x = new HandedLabels();
    for (int box = 0; box < 6; box++) {
      x.link(box, 6, 2);
    }
    for (int box = 0; box < 6; box++) {
      x.link(box, (box + 1) % 6, 9);
    }
    for (int c = 0; c < 4; c++) {
      x.end(c, 6);
    }
    due.is("21: full", x.many(0), 12);
    due.is("21: full, all UP", x.many(1), 12);
    due.is("16: full", x.settles(), 2);
    due.is("11: full", x.ticks(20), 2);
    due.is("21: all HANDED", x.many(2), 96);
    due.is("21: all KEPT", x.many(3), 96);
    due.is("21: the greatest", x.many(6), 19);
    due.is("15: the last number", x.meaning(6, 5, 19), 3);
    due.is("15: beyond it", x.meaning(6, 5, 20), NONE);
    due.is("20: all merge", x.merged(6, 3), 0b111111);
    due.is("19: all served", x.served(3, 2), 127);
    for (int box = 0; box < 7; box++) {
      due.is("9: full", x.mode(box, LINKWISE, 1), 0);
      due.is("9: full", x.mode(box, SPARING, 1), 0);
    }
    due.is("21: none HANDED", x.many(2), 0);
    due.is("11: full, LINKWISE", x.ticks(2), 1);
    due.is("21: all HANDED again", x.many(2), 96);
    due.is("21: KEPT from NEXT alone", x.many(3), 24);
    slip(x, "11: full, the last place", 5, 11, 3, 19, 1);
    x.up(11, 0);
    nothing(x, "4: full, the last place", 5, 11, 3);
    due.is("21: the last one DOWN", x.many(2), 88);
    x.up(11, 1);
    x.ticks(1);
    slip(x, "11: full, the last place again", 0, 11, 3, 19, 1);
  }

  private static void promise10() {
    HandedLabels x = new HandedLabels();
    due.is("10: ORDERED at first", x.setting(0, 0), 1);
    due.is("10: ORDERED then", x.setting(0, 1), 0);
    due.is("10: LIMIT at first", x.setting(1, 1), 7);
    due.is("10: LIMIT then", x.setting(1, 9), 1);
    for (int out : new int[] {-1, 2, Integer.MIN_VALUE, Integer.MAX_VALUE}) {
      due.is("10: no such SETTING", x.setting(out, 1), OUTSIDE);
      due.is("10: no such ORDERED", x.setting(0, out), OUTSIDE);
    }
    for (int out : new int[] {-1, 0, 10, Integer.MIN_VALUE, Integer.MAX_VALUE}) {
      due.is("10: no such LIMIT", x.setting(1, out), OUTSIDE);
    }
    due.is("10: refusals change no ORDERED", x.setting(0, 1), 1);
    due.is("10: refusals change no LIMIT", x.setting(1, 9), 9);
  }

  private static void promise11() {
    HandedLabels x = line();
    for (int out : new int[] {-1, 21, Integer.MIN_VALUE, Integer.MAX_VALUE}) {
      due.is("11: OUTSIDE", x.ticks(out), OUTSIDE);
    }
    due.is("11: no TICK by a refusal", x.many(5), 0);
    due.is("11: none", x.ticks(0), 0);
    due.is("11: none was", x.many(2), 0);
    due.is("11: those that change something", x.ticks(20), 4);
    due.is("11: TICKS so far", x.many(5), 20);
    due.is("11: nothing more", x.ticks(1), 0);
    x.mode(0, SPARING, 1);
    due.is("11: no one counts what is KEPT alone", x.ticks(1), 0);
    x.setting(1, 2);
    due.is("11: whether it is at all", x.ticks(2), 1);
    x.setting(1, 7);
    due.is("11: and again", x.ticks(2), 1);
    x.mode(3, EARLY, 1);
    due.is("11: a LABEL", x.ticks(2), 1);
    countAlone();
  }

  /** A way that gets longer: one BOX hands the same LABEL with another COUNT. */
  private static void countAlone() {
    HandedLabels x = new HandedLabels();
    x.link(0, 1, 1);
    x.link(1, 2, 1);
    x.link(0, 2, 1);
    x.link(3, 0, 1);
    x.end(0, 2);
    x.ticks(5);
    slip(x, "11: straight on", 0, 3, 0, 16, 1);
    x.cost(2, 9);
    due.is("11: a COUNT alone", x.ticks(1), 1);
    slip(x, "11: the longer way", 0, 3, 0, 16, 2);
  }

  private static void ordered() {
    HandedLabels x = line();
    due.is("11a: first TICK", x.ticks(1), 1);
    slip(x, "11a: the END", 3, 2, 0, 16, 0);
    due.is("11a: the END alone", x.many(2), 1);
    x.ticks(1);
    slip(x, "11a: one on", 2, 1, 0, 16, 1);
    slip(x, "11a: and back to the END", 2, 2, 0, 16, 1);
    due.is("11a: two BOXES", x.many(2), 3);
    x.ticks(1);
    slip(x, "11a: two on", 1, 0, 0, 16, 2);
    due.is("11a: three BOXES", x.many(2), 5);
    x.ticks(1);
    slip(x, "11a: three on", 0, 0, 0, 16, 3);
    due.is("11a: all", x.many(2), 6);
    x.end(0, NONE);
    x.end(0, 0);
    x.link(4, 5, 1);
    x.end(1, 6);
    x.ticks(10);
    nothing(x, "11a: without NEXT", 4, 3, 0);
    nothing(x, "11a: a far END", 4, 3, 1);
  }

  private static void freely() {
    HandedLabels x = line();
    x.setting(0, 0);
    x.link(4, 5, 1);
    due.is("11a: freely, first TICK", x.ticks(1), 1);
    slip(x, "11a: freely, the END", 3, 2, 0, 16, 0);
    slip(x, "11a: freely", 2, 1, 0, 16, 1);
    slip(x, "11a: freely", 1, 0, 0, 16, 1);
    slip(x, "11a: freely", 0, 0, 0, 16, 1);
    nothing(x, "11a: freely, but without NEXT", 4, 3, 0);
    due.is("11a: freely, all at once", x.many(2), 6);
    due.is("11a: freely, COUNTS follow", x.ticks(10), 2);
    slip(x, "11a: freely, in the end", 2, 1, 0, 16, 1);
    slip(x, "11a: freely, in the end", 1, 0, 0, 16, 2);
    slip(x, "11a: freely, in the end", 0, 0, 0, 16, 3);
  }

  private static void limitCuts() {
    HandedLabels x = line();
    x.setting(1, 2);
    due.is("11a: LIMIT 2", x.ticks(10), 3);
    slip(x, "11a: as much as LIMIT", 1, 0, 0, 16, 2);
    nothing(x, "11a: more than LIMIT", 0, 0, 0);
    due.is("11a: USED all the same", x.used(0, 0), 16);
    x.setting(1, 1);
    x.ticks(1);
    nothing(x, "11a: more than LIMIT now", 1, 0, 0);
    slip(x, "11a: 1 is not more than 1", 2, 1, 0, 16, 1);
    HandedLabels y = new HandedLabels();
    for (int box = 0; box < 6; box++) {
      y.link(box, box + 1, 1);
    }
    y.end(0, 6);
    y.ticks(20);
    slip(y, "11a: six on", 0, 0, 0, 16, 6);
  }

  private static void freelyLimit() {
    HandedLabels x = line();
    x.setting(0, 0);
    x.setting(1, 1);
    due.is("11a: freely, LIMIT 1", x.ticks(1), 1);
    due.is("11a: all hand", x.many(2), 6);
    x.ticks(1);
    nothing(x, "11a: COUNT would be 2", 1, 0, 0);
    nothing(x, "11a: COUNT would be 2", 0, 0, 0);
    x.ticks(1);
    slip(x, "11a: nothing USED any more", 0, 0, 0, 16, 1);
    nothing(x, "11a: still 2", 1, 0, 0);
    due.is("11a: so it rests", x.settles(), 0);
  }

  private static void asked() {
    HandedLabels x = line();
    x.mode(2, ASKED, 1);
    x.ticks(10);
    slip(x, "11b: asked", 2, 1, 0, 16, 1);
    nothing(x, "11b: the END asks nobody", 2, 2, 0);
    slip(x, "11b: another one is not ASKED", 1, 1, 0, 16, 2);
    x.mode(3, ASKED, 1);
    x.mode(0, ASKED, 1);
    x.ticks(1);
    slip(x, "11b: the END is asked", 3, 2, 0, 16, 0);
    nothing(x, "11b: nobody asks the first", 0, 0, 0);
    x.link(0, 3, 1);
    x.ticks(1);
    slip(x, "11b: a new LINK, asked over it", 3, 3, 0, 16, 0);
    nothing(x, "11b: 0 goes straight now", 0, 3, 0);
    nothing(x, "11b: 1 goes to 0, the lesser of two", 2, 1, 0);
    slip(x, "11b: with the TICK 0 has not yet anything USED", 1, 1, 0, NONE, NONE);
    x.ticks(1);
    slip(x, "11b: then it hands to 1", 0, 0, 0, 16, 1);
    x.up(3, 0);
    x.ticks(1);
    nothing(x, "11b: not over what is DOWN", 3, 3, 0);
    slip(x, "11b: asked again", 2, 1, 0, 16, 1);
  }

  private static void early() {
    HandedLabels x = line();
    x.end(1, 3);
    x.end(2, 0);
    x.mode(3, EARLY, 1);
    x.mode(2, EARLY, 1);
    x.ticks(10);
    slip(x, "11c: EARLY", 3, 2, 0, 3, 0);
    slip(x, "11c: EARLY for each CLASS", 3, 2, 1, 3, 0);
    slip(x, "11c: not for a CLASS that ends elsewhere", 3, 2, 2, 16, 3);
    slip(x, "11c: EARLY and no END", 2, 1, 0, 16, 1);
    slip(x, "11c: EARLY and no END", 2, 1, 1, 17, 1);
    slip(x, "11c: an END, not EARLY", 0, 0, 2, 16, 0);
    due.is("11c: USED is 3", x.used(2, 0), 3);
    x.mode(3, EARLY, 0);
    slip(x, "11c: 3 till the next TICK", 3, 2, 0, 3, 0);
    x.ticks(1);
    slip(x, "11c: 16 stays with CLASS 2", 3, 2, 2, 16, 3);
    slip(x, "11c: 3 does not stay", 3, 2, 0, 17, 0);
    slip(x, "11c: 3 does not stay", 3, 2, 1, 18, 0);
    x.mode(3, EARLY, 1);
    x.end(3, 1);
    x.ticks(5);
    slip(x, "11c: EARLY again", 3, 2, 0, 3, 0);
    slip(x, "11c: 17 is free again", 3, 2, 3, 17, 2);
  }

  /** Labels that stay, and numbers that get free, in one row for all LINKS. */
  private static void oneRowStays() {
    HandedLabels x = new HandedLabels();
    x.link(0, 1, 1);
    x.link(1, 2, 1);
    x.end(3, 1);
    x.ticks(1);
    slip(x, "11c: the first number", 1, 0, 3, 16, 0);
    slip(x, "11c: one LABEL over all", 1, 1, 3, 16, 0);
    x.end(0, 1);
    x.end(1, 1);
    x.ticks(1);
    slip(x, "11c: it stays, though its CLASS is greater", 1, 0, 3, 16, 0);
    slip(x, "11c: by CLASSES", 1, 0, 0, 17, 0);
    slip(x, "11c: by CLASSES", 1, 1, 1, 18, 0);
    x.end(0, NONE);
    x.ticks(1);
    nothing(x, "11c: no END, nothing HANDED", 1, 0, 0);
    slip(x, "11c: others stay", 1, 0, 1, 18, 0);
    x.end(0, 1);
    x.end(2, 1);
    x.ticks(1);
    slip(x, "11c: the least free one", 1, 0, 0, 17, 0);
    slip(x, "11c: and the next", 1, 0, 2, 19, 0);
    due.is("11c: the greatest", x.many(6), 19);
    x.end(3, 2);
    x.ticks(3);
    slip(x, "11c: the LABEL stays, whoever is the END", 1, 0, 3, 16, 1);
  }

  private static void rowFreesInTheSameTick() {
    HandedLabels x = new HandedLabels();
    x.link(0, 1, 1);
    x.end(0, 1);
    x.end(1, 1);
    x.ticks(1);
    slip(x, "11c: 17", 1, 0, 1, 17, 0);
    x.end(0, NONE);
    x.end(2, 1);
    x.end(3, 1);
    x.ticks(1);
    slip(x, "11c: 17 stays", 1, 0, 1, 17, 0);
    slip(x, "11c: 16 is free in that TICK", 1, 0, 2, 16, 0);
    slip(x, "11c: then 18", 1, 0, 3, 18, 0);
    x.up(0, 0);
    x.up(0, 1);
    x.end(0, 1);
    x.ticks(1);
    for (int c = 0; c < 4; c++) {
      slip(x, "11c: nothing was HANDED ahead", 1, 0, c, 16 + c, 0);
    }
  }

  private static void askedTakesNoLabel() {
    HandedLabels x = new HandedLabels();
    x.link(0, 1, 1);
    x.link(1, 2, 1);
    x.end(0, 0);
    x.end(1, 2);
    x.end(2, 1);
    x.mode(2, ASKED, 1);
    x.mode(1, ASKED, 1);
    x.ticks(5);
    due.is("11c: 2 hands CLASS 1 alone", x.handed(2, 1, 1, 0), 16);
    nothing(x, "11c: nobody asks for CLASS 0", 2, 1, 0);
    slip(x, "11c: CLASS 0 over one LINK", 1, 1, 0, 17, 1);
    nothing(x, "11c: CLASS 0 not over the other", 1, 0, 0);
    slip(x, "11c: another CLASS has not that number, on another LINK", 1, 0, 1, 18, 1);
    slip(x, "11c: the END was first, over both", 1, 0, 2, 16, 0);
    slip(x, "11c: the END was first, over both", 1, 1, 2, 16, 0);
    x.end(0, 2);
    x.end(1, 0);
    x.ticks(1);
    nothing(x, "11c: over another LINK, as asked", 1, 1, 0);
    x.ticks(1);
    due.is("11c: CLASS 0 over LINK 0", x.handed(1, 0, 0, 1), 1);
  }

  private static void linkwiseRows() {
    HandedLabels x = new HandedLabels();
    x.link(0, 1, 1);
    x.link(1, 2, 1);
    x.end(0, 0);
    x.end(1, 2);
    x.end(2, 1);
    x.mode(1, LINKWISE, 1);
    x.mode(1, ASKED, 1);
    x.ticks(5);
    slip(x, "11c: LINKWISE, the second on its LINK", 1, 1, 0, 17, 1);
    slip(x, "11c: LINKWISE, the second on its LINK", 1, 0, 1, 17, 1);
    slip(x, "11c: LINKWISE, the END was first", 1, 0, 2, 16, 0);
    slip(x, "11c: LINKWISE, the END was first", 1, 1, 2, 16, 0);
    x.mode(1, EARLY, 1);
    x.ticks(1);
    slip(x, "11c: LINKWISE and EARLY", 1, 0, 2, 3, 0);
    slip(x, "11c: LINKWISE and EARLY", 1, 1, 2, 3, 0);
  }

  private static void linkwiseStays() {
    HandedLabels x = new HandedLabels();
    x.link(0, 1, 1);
    x.mode(1, LINKWISE, 1);
    x.end(0, 1);
    x.end(1, 1);
    x.ticks(1);
    slip(x, "11c: LINKWISE", 1, 0, 1, 17, 0);
    x.link(1, 2, 1);
    x.end(0, NONE);
    x.ticks(1);
    slip(x, "11c: LINKWISE, stays on the old LINK", 1, 0, 1, 17, 0);
    slip(x, "11c: LINKWISE, least on the new LINK", 1, 1, 1, 16, 0);
    x.end(3, 1);
    x.end(0, 1);
    x.ticks(1);
    slip(x, "11c: LINKWISE, free on the old one", 1, 0, 0, 16, 0);
    slip(x, "11c: LINKWISE, next on the old one", 1, 0, 3, 18, 0);
    slip(x, "11c: LINKWISE, next on the new one", 1, 1, 0, 17, 0);
    slip(x, "11c: LINKWISE, next on the new one", 1, 1, 3, 18, 0);
    x.up(0, 0);
    x.up(0, 1);
    x.ticks(1);
    slip(x, "11c: LINKWISE, anew on the one that went", 1, 0, 1, 17, 0);
    slip(x, "11c: LINKWISE, stays on the other", 1, 1, 1, 16, 0);
    slip(x, "11c: LINKWISE, stays on the other", 1, 1, 0, 17, 0);
  }

  private static void sparing() {
    HandedLabels x = new HandedLabels();
    x.link(0, 1, 1);
    x.link(0, 2, 2);
    x.link(1, 3, 1);
    x.link(2, 3, 1);
    x.end(0, 3);
    x.ticks(5);
    kept(x, "11d: from NEXT", 0, 0, 0, 16, 1);
    kept(x, "11d: from another, too", 0, 1, 0, 16, 1);
    kept(x, "11d: the END keeps too", 3, 2, 0, 16, 1);
    x.mode(0, SPARING, 1);
    x.mode(3, SPARING, 1);
    kept(x, "11d: till the next TICK", 0, 1, 0, 16, 1);
    x.ticks(1);
    kept(x, "11d: SPARING, from NEXT", 0, 0, 0, 16, 1);
    kept(x, "11d: SPARING, not from another", 0, 1, 0, NONE, NONE);
    kept(x, "11d: SPARING, the END has no NEXT", 3, 2, 0, NONE, NONE);
    kept(x, "11d: another BOX keeps all", 1, 0, 0, 16, 2);
    x.cost(0, 9);
    due.is("11d: another NEXT", x.next(0, 0), 2);
    due.is("11d: nothing USED", x.used(0, 0), NONE);
    x.ticks(1);
    due.is("11d: USED again", x.used(0, 0), 16);
    kept(x, "11d: the old one is gone", 0, 0, 0, NONE, NONE);
    nothing(x, "11a: by what was KEPT ahead of the TICK", 0, 0, 0);
    x.ticks(1);
    slip(x, "11a: a TICK later", 0, 0, 0, 16, 2);
  }

  private static void promise12() {
    HandedLabels x = line();
    x.end(3, 0);
    x.ticks(8);
    slip(x, "12", 2, 1, 0, 16, 1);
    slip(x, "12", 2, 1, 3, 17, 2);
    nothing(x, "12: a CLASS without END", 2, 1, 1);
    refusals12();
  }

  private static void refusals12() {
    HandedLabels x = line();
    x.ticks(8);
    due.is("12: the LINK is not at the BOX", x.handed(0, 1, 0, 0), UNKNOWN);
    due.is("12: UNKNOWN ahead of OUTSIDE", x.handed(0, 1, 0, 2), UNKNOWN);
    due.is("13: the LINK is not at the BOX", x.kept(3, 1, 0, 0), UNKNOWN);
    due.is("13: UNKNOWN ahead of OUTSIDE", x.kept(3, 1, 0, 2), UNKNOWN);
    for (int out : NO_BOX) {
      due.is("12: UNKNOWN BOX", x.handed(out, 0, 0, 0), UNKNOWN);
      due.is("13: UNKNOWN BOX", x.kept(out, 0, 0, 2), UNKNOWN);
    }
    for (int out : new int[] {-1, 3, 12, Integer.MIN_VALUE, Integer.MAX_VALUE, -9}) {
      due.is("12: UNKNOWN LINK", x.handed(0, out, 0, 2), UNKNOWN);
      due.is("13: UNKNOWN LINK", x.kept(0, out, 0, 0), UNKNOWN);
    }
    for (int out : NO_CLASS) {
      due.is("12: UNKNOWN CLASS", x.handed(0, 0, out, 0), UNKNOWN);
      due.is("12: UNKNOWN CLASS ahead of OUTSIDE", x.handed(0, 0, out, 2), UNKNOWN);
      due.is("13: UNKNOWN CLASS", x.kept(0, 0, out, 0), UNKNOWN);
      due.is("13: UNKNOWN CLASS ahead of OUTSIDE", x.kept(0, 0, out, -1), UNKNOWN);
    }
    for (int out : NOT_0_1) {
      due.is("12: OUTSIDE", x.handed(0, 0, 0, out), OUTSIDE);
      due.is("12: OUTSIDE, nothing HANDED", x.handed(0, 0, 1, out), OUTSIDE);
      due.is("13: OUTSIDE", x.kept(0, 0, 0, out), OUTSIDE);
      due.is("13: OUTSIDE, nothing KEPT", x.kept(0, 0, 1, out), OUTSIDE);
    }
  }

  private static void promise13() {
    HandedLabels x = line();
    x.end(3, 0);
    x.ticks(1);
    kept(x, "13: in the same TICK", 2, 2, 0, 16, 0);
    kept(x, "13: not what it hands itself", 3, 2, 0, NONE, NONE);
    x.ticks(7);
    kept(x, "13: from the greater", 1, 1, 0, 16, 1);
    kept(x, "13: from the lesser", 2, 1, 0, 17, 2);
    kept(x, "13: of another CLASS", 2, 1, 3, 16, 1);
    kept(x, "13: of a CLASS without END", 2, 1, 1, NONE, NONE);
  }

  private static void promise14() {
    HandedLabels x = line();
    x.end(1, 3);
    due.is("14: nothing yet", x.used(2, 0), NONE);
    x.ticks(2);
    due.is("14: from NEXT", x.used(2, 0), 16);
    due.is("14: of another CLASS", x.used(2, 1), 17);
    due.is("14: one on", x.used(1, 1), 17);
    due.is("14: not there yet", x.used(0, 0), NONE);
    due.is("14: the END uses nothing, though it has KEPT", x.used(3, 0), NONE);
    due.is("14: it has KEPT", x.kept(3, 2, 0, 0), 16);
    due.is("14: no END", x.used(2, 2), NONE);
    due.is("14: alone", x.used(6, 0), NONE);
    x.mode(3, EARLY, 1);
    x.ticks(1);
    due.is("14: take off", x.used(2, 0), 3);
    for (int out : NO_BOX) {
      due.is("14: UNKNOWN BOX", x.used(out, 0), UNKNOWN);
    }
    for (int out : NO_CLASS) {
      due.is("14: UNKNOWN CLASS", x.used(0, out), UNKNOWN);
    }
  }

  private static void promise15() {
    HandedLabels x = line();
    x.end(1, 3);
    x.end(2, 3);
    x.mode(2, ASKED, 1);
    x.ticks(8);
    due.is("15: the first", x.meaning(2, 1, 16), 0);
    due.is("15: the second", x.meaning(2, 1, 17), 1);
    due.is("15: over any LINK", x.meaning(2, 2, 18), 2);
    due.is("15: none", x.meaning(2, 1, 19), NONE);
    due.is("15: the edges", x.meaning(2, 1, 0), NONE);
    due.is("15: the edges", x.meaning(2, 1, 99), NONE);
    due.is("15: 3 while nothing is taken off", x.meaning(3, 2, 3), NONE);
    x.end(0, NONE);
    x.mode(3, EARLY, 1);
    x.ticks(8);
    due.is("15: of several the least", x.meaning(3, 2, 3), 1);
    due.is("15: one that is free", x.meaning(2, 1, 16), NONE);
    x.mode(2, LINKWISE, 1);
    due.is("15: hands nothing", x.meaning(2, 1, 17), NONE);
    for (int out : NO_BOX) {
      due.is("15: UNKNOWN BOX", x.meaning(out, 1, 100), UNKNOWN);
    }
    for (int out : new int[] {-1, 3, 12, Integer.MIN_VALUE, Integer.MAX_VALUE, -9}) {
      due.is("15: UNKNOWN LINK", x.meaning(1, out, 16), UNKNOWN);
    }
    due.is("15: the LINK is not at the BOX", x.meaning(0, 2, 16), UNKNOWN);
    due.is("15: UNKNOWN ahead of OUTSIDE", x.meaning(0, 2, -1), UNKNOWN);
    for (int out : new int[] {-1, 100, Integer.MIN_VALUE, Integer.MAX_VALUE}) {
      due.is("15: OUTSIDE", x.meaning(1, 1, out), OUTSIDE);
    }
  }

  private static void promise15Linkwise() {
    HandedLabels x = new HandedLabels();
    x.link(0, 1, 1);
    x.link(1, 2, 1);
    x.end(0, 0);
    x.end(1, 2);
    x.mode(1, LINKWISE, 1);
    x.mode(1, ASKED, 1);
    x.ticks(5);
    due.is("15: LINKWISE, this LINK", x.meaning(1, 0, 16), 1);
    due.is("15: LINKWISE, that LINK", x.meaning(1, 1, 16), 0);
    due.is("15: LINKWISE, none", x.meaning(1, 0, 17), NONE);
    x.end(2, 1);
    x.ticks(1);
    due.is("15: LINKWISE, the second", x.meaning(1, 0, 17), 2);
    x.up(0, 0);
    due.is("15: LINKWISE, DOWN", x.meaning(1, 0, 17), NONE);
    due.is("15: LINKWISE, the other one", x.meaning(1, 1, 17), 2);
  }

  private static void promise16() {
    HandedLabels x = new HandedLabels();
    due.is("16: nothing to do", x.settles(), 0);
    x = line();
    for (int ticks = 4; ticks >= 0; ticks--) {
      due.is("16: still to go", x.settles(), ticks);
      due.is("16: asked twice", x.settles(), ticks);
      due.is("16: no TICK by it", x.many(5), 4 - ticks);
      x.ticks(1);
    }
    x.mode(0, SPARING, 1);
    due.is("16: it keeps from its NEXT alone already", x.settles(), 0);
    x.mode(1, SPARING, 1);
    due.is("16: what is KEPT counts too", x.settles(), 1);
    due.is("16: KEPT is as it was", x.many(3), 6);
    due.is("16: nothing HANDED changes", x.ticks(1), 0);
    due.is("16: KEPT is less", x.many(3), 5);
    due.is("16: then it rests", x.settles(), 0);
    x.end(0, 0);
    int handed = x.many(2);
    due.is("16: the other END", x.settles() > 0 ? 1 : 0, 1);
    due.is("16: HANDED is as it was", x.many(2), handed);
    slip(x, "16: HANDED is as it was", 0, 0, 0, 16, 3);
    x.setting(0, 0);
    HandedLabels y = line();
    y.setting(0, 0);
    due.is("16: freely", y.settles(), 3);
    y.ticks(1);
    due.is("16: freely, one less", y.settles(), 2);
  }
}
