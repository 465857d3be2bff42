/** The boundary cases of promises 17 to 21, a test for each. */
public final class LettersEdgesTest {
  private static final int UNKNOWN = Nets.UNKNOWN, OUTSIDE = Nets.OUTSIDE, NONE = Nets.NONE;
  private static final int ASKED = Nets.ASKED, SPARING = Nets.SPARING;
  private static final int LINKWISE = Nets.LINKWISE, EARLY = Nets.EARLY;
  private static final int LIMIT = Nets.LIMIT;

  private static final Due due = new Due("LettersEdgesTest");

  public static void main(String[] args) throws Exception {
    Cases.run(LettersEdgesTest.class, due, 17, 18, 19, 20, 21);
  }

  /** The way that was told last: BOX, LABEL, BOX, LABEL .., and nothing after it. */
  private static void way(HandedLabels x, String what, int... hops) {
    for (int k = 0; k <= 14; k++) {
      boolean was = 2 * k < hops.length;
      due.is(what + ", BOX " + k, x.trace(k, 0), was ? hops[2 * k] : NONE);
      due.is(what + ", LABEL " + k, x.trace(k, 1), was ? hops[2 * k + 1] : NONE);
    }
  }

  // ---- promise 17: letter

  static void promise17_boxTooSmall() {
    due.is("letter(-1, 0)", Nets.settledLine(2).letter(-1, 0), UNKNOWN);
    due.is("the least int", Nets.settledLine(2).letter(Integer.MIN_VALUE, 0), UNKNOWN);
  }

  static void promise17_boxTooLarge() {
    due.is("letter(7, 0)", Nets.settledLine(2).letter(7, 0), UNKNOWN);
    due.is("the greatest int", Nets.settledLine(2).letter(Integer.MAX_VALUE, 0), UNKNOWN);
  }

  static void promise17_classTooSmall() {
    due.is("letter(0, -1)", Nets.settledLine(2).letter(0, -1), UNKNOWN);
    due.is("the least int", Nets.settledLine(2).letter(0, Integer.MIN_VALUE), UNKNOWN);
  }

  static void promise17_classTooLarge() {
    due.is("letter(0, 4)", Nets.settledLine(2).letter(0, 4), UNKNOWN);
    due.is("the greatest int", Nets.settledLine(2).letter(0, Integer.MAX_VALUE), UNKNOWN);
  }

  static void promise17_thereAtItsFirstBox() {
    HandedLabels x = Nets.settledLine(2);
    due.is("at the END", x.letter(1, 0), 0);
    way(x, "one BOX", 1, 0);
  }

  static void promise17_thereWithoutAnyLink() {
    HandedLabels x = new HandedLabels();
    x.end(3, 6);
    due.is("at the END", x.letter(6, 3), 0);
    due.is("elsewhere", x.letter(0, 3), 1);
  }

  static void promise17_lostWithoutEnd() {
    HandedLabels x = Nets.line(2);
    due.is("no END", x.letter(0, 0), 1);
    way(x, "it was at its first BOX", 0, 0);
  }

  static void promise17_lostWithoutAWay() {
    HandedLabels x = Nets.settledLine(3);
    due.is("no LINK", x.letter(6, 0), 1);
    x.up(1, 0);
    due.is("cut off", x.letter(0, 0), 1);
    way(x, "it does not set out", 0, 0);
  }

  static void promise17_withoutALabelIfNothingIsUsed() {
    HandedLabels x = Nets.line(3);
    x.end(0, 2);
    due.is("THERE all the same", x.letter(0, 0), 0);
    way(x, "no LABELS", 0, 0, 1, 0, 2, 0);
  }

  static void promise17_labelPutOnOnTheWay() {
    HandedLabels x = Nets.line(3);
    x.end(0, 2);
    x.ticks(1);
    due.is("THERE", x.letter(0, 0), 0);
    way(x, "1 has something USED", 0, 0, 1, 0, 2, 16);
  }

  /** BOX 3 is the END of CLASS 1 and had it first; the others had CLASS 0 first. */
  static void promise17_labelChangedOnTheWay() {
    HandedLabels x = Nets.line(4);
    x.end(0, 2);
    x.end(1, 3);
    x.ticks(8);
    due.is("THERE", x.letter(0, 1), 0);
    way(x, "each BOX's own", 0, 0, 1, 17, 2, 17, 3, 16);
    due.is("THERE", x.letter(3, 0), 0);
    way(x, "of the other CLASS", 3, 0, 2, 16);
  }

  static void promise17_takenOffOneBoxEarly() {
    HandedLabels x = Nets.line(4);
    x.mode(3, EARLY, 1);
    x.end(0, 3);
    x.ticks(5);
    due.is("THERE", x.letter(0, 0), 0);
    way(x, "without one at the END", 0, 0, 1, 16, 2, 16, 3, 0);
  }

  static void promise17_takenOffAtTheFirstBox() {
    HandedLabels x = Nets.line(2);
    x.mode(1, EARLY, 1);
    x.end(0, 1);
    x.ticks(2);
    due.is("THERE", x.letter(0, 0), 0);
    way(x, "3 is never put on", 0, 0, 1, 0);
  }

  /** Taken off ahead of the old END, it is of its own CLASS there, which ends elsewhere now. */
  static void promise17_ofItsOwnClassAgain() {
    HandedLabels x = Nets.line(4);
    x.mode(2, EARLY, 1);
    x.end(0, 2);
    x.ticks(5);
    x.end(0, 3);
    due.is("THERE at the new END", x.letter(0, 0), 0);
    way(x, "bare at 2, which uses what 3 hands", 0, 0, 1, 16, 2, 0, 3, 16);
  }

  static void promise17_lostIfNobodyHandsTheLabel() {
    HandedLabels x = Nets.settledLine(4);
    x.mode(2, LINKWISE, 1);
    due.is("LOST", x.letter(0, 0), 2);
    way(x, "at 2", 0, 0, 1, 16, 2, 16);
    due.is("2 itself puts on 3's", x.letter(2, 0), 0);
  }

  static void promise17_lostIfTheEndDoesNotHandTheLabel() {
    HandedLabels x = Nets.settledLine(3);
    x.mode(2, LINKWISE, 1);
    due.is("LOST, though at the END", x.letter(1, 0), 2);
    due.is("THERE without a LABEL", x.letter(2, 0), 0);
  }

  static void promise17_lostIfNothingIsUsed() {
    HandedLabels x = Nets.line(3);
    x.link(1, 3, 2);
    x.link(2, 3, 1);
    x.mode(1, SPARING, 1);
    x.end(0, 3);
    x.ticks(5);
    due.is("NEXT of 1: of two alike 2", x.next(1, 0), 2);
    x.cost(2, 1);
    due.is("NEXT of 1", x.next(1, 0), 3);
    due.is("LOST", x.letter(0, 0), 3);
    way(x, "at 1", 0, 0, 1, 16);
    due.is("without a LABEL it goes on", x.letter(1, 0), 0);
    way(x, "bare", 1, 0, 3, 0);
  }

  /** With a LABEL at a BOX that is the END and uses nothing: THERE comes ahead of LOST (3). */
  static void promise17_thereWithALabelAheadOfLost() {
    HandedLabels x = Nets.settledLine(3);
    due.is("the END uses nothing", x.used(2, 0), NONE);
    due.is("THERE", x.letter(0, 0), 0);
    way(x, "with a LABEL", 0, 0, 1, 16, 2, 16);
  }

  static void promise17_linkwiseByTheLinkItCameOver() {
    HandedLabels x = Nets.line(3);
    x.mode(1, LINKWISE, 1);
    x.mode(1, ASKED, 1);
    x.end(0, 2);
    x.end(3, 0);
    x.ticks(5);
    due.is("16 from 0", x.used(0, 0), 16);
    due.is("16 from 2", x.used(2, 3), 16);
    due.is("from 0", x.letter(0, 0), 0);
    way(x, "from 0", 0, 0, 1, 16, 2, 16);
    due.is("from 2", x.letter(2, 3), 0);
    way(x, "from 2", 2, 0, 1, 16, 0, 16);
  }

  static void promise17_notLinkwiseByAnyLink() {
    HandedLabels x = Nets.line(3);
    x.end(0, 2);
    x.ticks(5);
    x.mode(1, ASKED, 1);
    x.ticks(1);
    due.is("HANDED to 0", x.handed(1, 0, 0, 0), 16);
    due.is("THERE", x.letter(0, 0), 0);
  }

  static void promise17_theLongestWay() {
    HandedLabels x = Nets.settledLine(7);
    due.is("over six LINKS", x.letter(0, 0), 0);
    way(x, "all BOXES", 0, 0, 1, 16, 2, 16, 3, 16, 4, 16, 5, 16, 6, 16);
  }

  static void promise17_beyondTheLimitWithoutALabel() {
    HandedLabels x = Nets.line(4);
    x.setting(LIMIT, 1);
    x.end(0, 3);
    x.ticks(5);
    due.is("THERE", x.letter(0, 0), 0);
    way(x, "2 hands, 1 does not", 0, 0, 1, 0, 2, 16, 3, 16);
  }

  // ---- promise 18: trace

  static void promise18_placeTooSmall() {
    HandedLabels x = Nets.settledLine(2);
    x.letter(0, 0);
    due.is("trace(-1, 0)", x.trace(-1, 0), OUTSIDE);
    due.is("the least int", x.trace(Integer.MIN_VALUE, 0), OUTSIDE);
  }

  static void promise18_placeTooLarge() {
    HandedLabels x = Nets.settledLine(2);
    x.letter(0, 0);
    due.is("trace(15, 0)", x.trace(15, 0), OUTSIDE);
    due.is("the greatest int", x.trace(Integer.MAX_VALUE, 0), OUTSIDE);
  }

  static void promise18_whatTooSmall() {
    HandedLabels x = Nets.settledLine(2);
    x.letter(0, 0);
    due.is("trace(0, -1)", x.trace(0, -1), OUTSIDE);
    due.is("the least int", x.trace(0, Integer.MIN_VALUE), OUTSIDE);
  }

  static void promise18_whatTooLarge() {
    HandedLabels x = Nets.settledLine(2);
    x.letter(0, 0);
    due.is("trace(0, 2)", x.trace(0, 2), OUTSIDE);
    due.is("the greatest int", x.trace(0, Integer.MAX_VALUE), OUTSIDE);
  }

  static void promise18_outsideThoughNoLetterWasTold() {
    HandedLabels x = new HandedLabels();
    due.is("trace(15, 0)", x.trace(15, 0), OUTSIDE);
    due.is("trace(-1, 0)", x.trace(-1, 0), OUTSIDE);
    due.is("trace(0, 2)", x.trace(0, 2), OUTSIDE);
    due.is("trace(0, -1)", x.trace(0, -1), OUTSIDE);
  }

  static void promise18_noLetterToldYet() {
    HandedLabels x = Nets.settledLine(2);
    way(x, "none");
    due.is("trace(14, 1)", x.trace(14, 1), NONE);
  }

  static void promise18_notSoMany() {
    HandedLabels x = Nets.settledLine(2);
    x.letter(0, 0);
    due.is("the last that was", x.trace(1, 0), 1);
    due.is("one beyond", x.trace(2, 0), NONE);
    due.is("one beyond, LABEL", x.trace(2, 1), NONE);
    due.is("the greatest place", x.trace(14, 0), NONE);
    due.is("the greatest place, LABEL", x.trace(14, 1), NONE);
  }

  static void promise18_withoutALabelIsZeroNotNone() {
    HandedLabels x = Nets.settledLine(2);
    x.letter(0, 0);
    due.is("at its first BOX", x.trace(0, 1), 0);
  }

  static void promise18_aShorterOneLeavesNothingOfALonger() {
    HandedLabels x = Nets.settledLine(5);
    x.letter(0, 0);
    x.letter(3, 0);
    way(x, "the last one", 3, 0, 4, 16);
  }

  static void promise18_ofALostLetterToo() {
    HandedLabels x = Nets.settledLine(3);
    x.mode(1, LINKWISE, 1);
    x.letter(0, 0);
    way(x, "LOST (2) at 1", 0, 0, 1, 16);
    x.letter(6, 0);
    way(x, "LOST (1) at 6", 6, 0);
  }

  static void promise18_aRefusedLetterIsNotTold() {
    HandedLabels x = Nets.settledLine(2);
    x.letter(7, 0);
    x.letter(0, 4);
    way(x, "none yet");
    x.letter(0, 0);
    x.letter(-1, 0);
    x.letter(0, -1);
    way(x, "the one told last", 0, 0, 1, 16);
  }

  static void promise18_staysAsItWasTold() {
    HandedLabels x = Nets.settledLine(3);
    x.letter(0, 0);
    x.up(0, 0);
    x.end(0, 0);
    x.mode(1, LINKWISE, 1);
    x.ticks(5);
    x.settles();
    way(x, "as the net was then", 0, 0, 1, 16, 2, 16);
  }

  // ---- promise 19: served

  static void promise19_classTooSmall() {
    due.is("served(-1, 0)", Nets.settledLine(2).served(-1, 0), UNKNOWN);
    due.is("the least int", Nets.settledLine(2).served(Integer.MIN_VALUE, 0), UNKNOWN);
  }

  static void promise19_classTooLarge() {
    due.is("served(4, 0)", Nets.settledLine(2).served(4, 0), UNKNOWN);
    due.is("the greatest int", Nets.settledLine(2).served(Integer.MAX_VALUE, 0), UNKNOWN);
  }

  static void promise19_howTooSmall() {
    due.is("served(0, -1)", Nets.settledLine(2).served(0, -1), OUTSIDE);
    due.is("the least int", Nets.settledLine(2).served(0, Integer.MIN_VALUE), OUTSIDE);
  }

  static void promise19_howTooLarge() {
    due.is("served(0, 3)", Nets.settledLine(2).served(0, 3), OUTSIDE);
    due.is("the greatest int", Nets.settledLine(2).served(0, Integer.MAX_VALUE), OUTSIDE);
  }

  static void promise19_unknownAheadOfOutside() {
    due.is("served(4, 3)", new HandedLabels().served(4, 3), UNKNOWN);
    due.is("served(-1, -1)", new HandedLabels().served(-1, -1), UNKNOWN);
  }

  static void promise19_noneServed() {
    HandedLabels x = Nets.line(7);
    due.is("THERE", x.served(0, 0), 0);
    due.is("LOST", x.served(0, 1), 127);
    due.is("LABELS between", x.served(0, 2), 0);
  }

  static void promise19_allServed() {
    HandedLabels x = Nets.settledLine(7);
    due.is("THERE", x.served(0, 0), 127);
    due.is("LOST", x.served(0, 1), 0);
    due.is("LABELS between", x.served(0, 2), 127);
  }

  static void promise19_firstAndLastBit() {
    HandedLabels x = new HandedLabels();
    x.end(0, 0);
    x.end(3, 6);
    due.is("BOX 0", x.served(0, 0), 1);
    due.is("BOX 6", x.served(3, 0), 64);
    due.is("all but BOX 0", x.served(0, 1), 126);
    due.is("all but BOX 6", x.served(3, 1), 63);
  }

  static void promise19_theEndItselfIsFirstAndLast() {
    HandedLabels x = new HandedLabels();
    x.end(0, 3);
    due.is("the END alone", x.served(0, 2), 8);
  }

  static void promise19_besideTheEndThereIsNoneBetween() {
    HandedLabels x = Nets.line(3);
    x.end(0, 2);
    due.is("two BOXES, no LABEL", x.served(0, 2), 0b110);
    due.is("THERE without LABELS", x.served(0, 0), 0b111);
    x.ticks(2);
    due.is("three BOXES, LABEL between", x.served(0, 2), 0b111);
  }

  static void promise19_oneWithoutALabelBetweenIsEnough() {
    HandedLabels x = Nets.line(4);
    x.setting(LIMIT, 1);
    x.end(0, 3);
    x.ticks(5);
    due.is("0 is bare at 1", x.served(0, 2), 0b1110);
    HandedLabels y = Nets.line(4);
    y.mode(2, EARLY, 1);
    y.end(0, 2);
    y.ticks(5);
    y.end(0, 3);
    due.is("0 and 1 are bare at 2", y.served(0, 2), 0b1100);
  }

  static void promise19_bareAtTheLastIsNoHarm() {
    HandedLabels x = Nets.line(4);
    x.mode(3, EARLY, 1);
    x.end(0, 3);
    x.ticks(5);
    due.is("EARLY", x.served(0, 2), 0b1111);
  }

  static void promise19_lostWithLabelsIsNotServed() {
    HandedLabels x = Nets.settledLine(4);
    x.mode(3, LINKWISE, 1);
    due.is("THERE", x.served(0, 0), 0b1000);
    due.is("LOST", x.served(0, 1), 0b1110111);
    due.is("LABELS between, but LOST", x.served(0, 2), 0b1000);
  }

  static void promise19_lostForNothingUsedIsLost() {
    HandedLabels x = Nets.line(3);
    x.link(1, 3, 2);
    x.link(2, 3, 1);
    x.mode(1, SPARING, 1);
    x.end(0, 3);
    x.ticks(5);
    x.cost(2, 1);
    due.is("LOST", x.served(0, 1), 0b1110001);
    due.is("THERE", x.served(0, 0), 0b1110);
  }

  static void promise19_traceTellsWhatItToldAhead() {
    HandedLabels x = Nets.settledLine(3);
    for (int how = 0; how < 3; how++) {
      x.served(0, how);
      way(x, "none told", new int[0]);
    }
    x.letter(1, 0);
    for (int how = 0; how < 3; how++) {
      x.served(0, how);
      way(x, "the one told", 1, 0, 2, 16);
    }
  }

  // ---- promise 20: merged

  static void promise20_boxTooSmall() {
    due.is("merged(-1, 0)", Nets.settledLine(2).merged(-1, 0), UNKNOWN);
    due.is("NONE", Nets.settledLine(2).merged(NONE, 0), UNKNOWN);
    due.is("the least int", Nets.settledLine(2).merged(Integer.MIN_VALUE, 0), UNKNOWN);
  }

  static void promise20_boxTooLarge() {
    due.is("merged(7, 0)", Nets.settledLine(2).merged(7, 0), UNKNOWN);
    due.is("the greatest int", Nets.settledLine(2).merged(Integer.MAX_VALUE, 0), UNKNOWN);
  }

  static void promise20_classTooSmall() {
    due.is("merged(0, -1)", Nets.settledLine(2).merged(0, -1), UNKNOWN);
    due.is("the least int", Nets.settledLine(2).merged(0, Integer.MIN_VALUE), UNKNOWN);
  }

  static void promise20_classTooLarge() {
    due.is("merged(0, 4)", Nets.settledLine(2).merged(0, 4), UNKNOWN);
    due.is("the greatest int", Nets.settledLine(2).merged(0, Integer.MAX_VALUE), UNKNOWN);
  }

  static void promise20_nobody() {
    HandedLabels x = Nets.settledLine(3);
    due.is("no END", x.merged(1, 1), 0);
    due.is("nobody's NEXT", x.merged(0, 0), 0);
    due.is("no LINK", x.merged(6, 0), 0);
  }

  static void promise20_mostOfAll() {
    HandedLabels x = Nets.settledWheel();
    for (int c = 0; c < 4; c++) {
      due.is("all but itself", x.merged(6, c), 63);
    }
  }

  static void promise20_firstAndLastBit() {
    HandedLabels x = Nets.line(7);
    x.end(0, 6);
    x.end(3, 0);
    x.ticks(7);
    due.is("BOX 0", x.merged(1, 0), 1);
    due.is("BOX 6", x.merged(5, 3), 64);
    due.is("BOX 5 at the END", x.merged(6, 0), 32);
    due.is("BOX 1 at the END", x.merged(0, 3), 2);
  }

  static void promise20_nextButNothingUsed() {
    HandedLabels x = Nets.line(2);
    x.end(0, 1);
    due.is("NEXT", x.next(0, 0), 1);
    due.is("nothing USED", x.merged(1, 0), 0);
    x.ticks(1);
    due.is("something USED", x.merged(1, 0), 1);
  }

  static void promise20_keptButNotNext() {
    HandedLabels x = Nets.settledLine(3);
    due.is("1 has KEPT from 0", x.kept(1, 0, 0, 0), 16);
    due.is("0 is nobody's NEXT", x.merged(0, 0), 0);
    due.is("1 is the NEXT of 0 alone", x.merged(1, 0), 1);
  }

  static void promise20_takeOffIsSomethingUsed() {
    HandedLabels x = Nets.line(2);
    x.mode(1, EARLY, 1);
    x.end(0, 1);
    x.ticks(1);
    due.is("3", x.merged(1, 0), 1);
  }

  // ---- promise 21: many

  static void promise21_whatTooSmall() {
    due.is("many(-1)", new HandedLabels().many(-1), OUTSIDE);
    due.is("the least int", new HandedLabels().many(Integer.MIN_VALUE), OUTSIDE);
  }

  static void promise21_whatTooLarge() {
    due.is("many(7)", new HandedLabels().many(7), OUTSIDE);
    due.is("the greatest int", new HandedLabels().many(Integer.MAX_VALUE), OUTSIDE);
  }

  private static void many(HandedLabels x, String what, int... wants) {
    for (int k = 0; k < wants.length; k++) {
      due.is(what + ", many(" + k + ")", x.many(k), wants[k]);
    }
  }

  static void promise21_empty() {
    many(new HandedLabels(), "a new object", 0, 0, 0, 0, 0, 0, 0);
  }

  static void promise21_full() {
    many(Nets.settledWheel(), "all places", 12, 12, 96, 96, 4, 20, 19);
  }

  static void promise21_upOnesAreNotAll() {
    HandedLabels x = Nets.wheel();
    x.up(0, 0);
    x.up(11, 0);
    many(x, "two DOWN", 12, 10);
  }

  static void promise21_handedIsNotKept() {
    HandedLabels x = Nets.settledLine(3);
    x.mode(1, LINKWISE, 1);
    many(x, "1 hands nothing, all is KEPT", 2, 2, 2, 4);
    HandedLabels y = Nets.settledLine(3);
    y.mode(2, SPARING, 1);
    y.ticks(1);
    many(y, "2 keeps nothing, all is HANDED", 2, 2, 4, 3);
  }

  static void promise21_endsComeAndGo() {
    HandedLabels x = new HandedLabels();
    for (int c = 0; c < 4; c++) {
      x.end(c, 0);
      due.is("one more", x.many(4), c + 1);
    }
    x.end(0, NONE);
    x.end(3, NONE);
    due.is("two less", x.many(4), 2);
  }

  static void promise21_ticksByAllCalls() {
    HandedLabels x = new HandedLabels();
    x.ticks(20);
    x.ticks(0);
    x.ticks(1);
    x.ticks(21);
    x.ticks(-1);
    x.settles();
    due.is("21", x.many(5), 21);
  }

  static void promise21_greatestLabelIsZeroIfNothingIsHanded() {
    HandedLabels x = Nets.settledLine(2);
    due.is("ahead", x.many(6), 16);
    x.up(0, 0);
    due.is("nothing HANDED", x.many(6), 0);
  }

  static void promise21_greatestLabelThree() {
    HandedLabels x = Nets.line(2);
    x.mode(0, ASKED, 1);
    x.mode(1, EARLY, 1);
    x.end(0, 1);
    x.ticks(3);
    due.is("3 alone", x.many(6), 3);
  }

  static void promise21_firstPlaceAlone() {
    HandedLabels x = Nets.line(2);
    x.mode(1, ASKED, 1);
    x.end(0, 0);
    x.ticks(3);
    many(x, "BOX 0, LINK 0, CLASS 0", 1, 1, 1, 1, 1, 3, 16);
  }

  static void promise21_lastPlaceAlone() {
    HandedLabels x = Nets.wheel();
    for (int l = 0; l < 11; l++) {
      x.up(l, 0);
    }
    x.mode(0, ASKED, 1);
    x.end(3, 5);
    x.ticks(3);
    many(x, "BOX 5, LINK 11, CLASS 3", 12, 1, 1, 1, 1, 3, 16);
  }

  static void promise21_greatestLabelOfThoseHandedNow() {
    HandedLabels x = Nets.line(2);
    for (int c = 0; c < 4; c++) {
      x.end(c, 1);
    }
    x.ticks(2);
    due.is("19", x.many(6), 19);
    x.end(3, NONE);
    due.is("till the TICK", x.many(6), 19);
    x.ticks(1);
    due.is("18", x.many(6), 18);
    x.end(0, NONE);
    x.ticks(1);
    due.is("18 stays", x.many(6), 18);
  }

  static void promise21_greatestLabelHandedNotKept() {
    HandedLabels x = Nets.settledLine(2);
    x.mode(0, LINKWISE, 1);
    x.mode(1, LINKWISE, 1);
    due.is("KEPT", x.many(3), 2);
    due.is("nothing HANDED", x.many(6), 0);
  }
}
