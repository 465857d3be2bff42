/** The boundary cases of promises 1 to 8, a test for each. */
public final class NetEdgesTest {
  private static final int UNKNOWN = Nets.UNKNOWN, OUTSIDE = Nets.OUTSIDE, STATE = Nets.STATE;
  private static final int FULL = Nets.FULL, NONE = Nets.NONE;

  private static final Due due = new Due("NetEdgesTest");

  public static void main(String[] args) throws Exception {
    Cases.run(NetEdgesTest.class, due, 1, 2, 3, 4, 5, 6, 7, 8);
  }

  // ---- promise 1: a new object

  static void promise01_noLinks() {
    HandedLabels x = new HandedLabels();
    due.is("many(0)", x.many(0), 0);
    due.is("many(1)", x.many(1), 0);
    due.is("ofLink(0, 0)", x.ofLink(0, 0), UNKNOWN);
  }

  static void promise01_noEnds() {
    HandedLabels x = new HandedLabels();
    due.is("many(4)", x.many(4), 0);
    for (int c = 0; c < 4; c++) {
      due.is("end of " + c, x.end(c, NONE), NONE);
    }
  }

  static void promise01_noWays() {
    HandedLabels x = new HandedLabels();
    for (int box = 0; box < 7; box++) {
      for (int c = 0; c < 4; c++) {
        due.is("FAR of " + box, x.far(box, c), NONE);
        due.is("NEXT of " + box, x.next(box, c), NONE);
        due.is("USED of " + box, x.used(box, c), NONE);
        due.is("merged at " + box, x.merged(box, c), 0);
      }
    }
  }

  static void promise01_nothingHandedOrKeptAtFirst() {
    HandedLabels x = Nets.wheel();
    for (int c = 0; c < 4; c++) {
      for (int l = 0; l < 12; l++) {
        due.is("handed, lesser BOX", x.handed(x.ofLink(l, 0), l, c, 0), NONE);
        due.is("kept, greater BOX", x.kept(x.ofLink(l, 1), l, c, 0), NONE);
      }
    }
    due.is("many(2)", x.many(2), 0);
    due.is("many(3)", x.many(3), 0);
    due.is("many(6)", x.many(6), 0);
  }

  static void promise01_modesAreZero() {
    HandedLabels x = new HandedLabels();
    for (int box = 0; box < 7; box++) {
      for (int which = 0; which < 4; which++) {
        due.is("mode(" + box + ", " + which + ")", x.mode(box, which, 0), 0);
      }
    }
  }

  static void promise01_orderedIsOneAndLimitSeven() {
    HandedLabels x = new HandedLabels();
    due.is("ORDERED", x.setting(Nets.ORDERED, 1), 1);
    due.is("LIMIT", x.setting(Nets.LIMIT, 7), 7);
  }

  static void promise01_noTicksSoFar() {
    due.is("many(5)", new HandedLabels().many(5), 0);
  }

  static void promise01_noLetterToldYet() {
    HandedLabels x = new HandedLabels();
    due.is("trace(0, 0)", x.trace(0, 0), NONE);
    due.is("trace(0, 1)", x.trace(0, 1), NONE);
  }

  static void promise01_objectsShareNothing() {
    HandedLabels x = Nets.busy();
    HandedLabels y = new HandedLabels();
    due.is("LINKS", y.many(0), 0);
    due.is("ENDS", y.many(4), 0);
    due.is("MODES", y.mode(1, Nets.LINKWISE, 0), 0);
    due.is("SETTINGS", y.setting(Nets.LIMIT, 9), 7);
    due.is("a LETTER", y.trace(0, 0), NONE);
    due.is("the first one's SETTINGS", x.setting(Nets.LIMIT, 5), 5);
  }

  // ---- promise 2: link

  static void promise02_numbersFromZeroToEleven() {
    HandedLabels x = new HandedLabels();
    int n = 0;
    for (int a = 0; a < 7 && n < 12; a++) {
      for (int b = a + 1; b < 7 && n < 12; b++) {
        due.is("the next number", x.link(b, a, 1), n);
        n++;
      }
    }
    due.is("LINKS", x.many(0), 12);
  }

  static void promise02_leastAndGreatestBox() {
    HandedLabels x = new HandedLabels();
    due.is("link(0, 6, 1)", x.link(0, 6, 1), 0);
    due.is("the lesser", x.ofLink(0, 0), 0);
    due.is("the greater", x.ofLink(0, 1), 6);
  }

  static void promise02_firstBoxTooSmall() {
    due.is("link(-1, 1, 1)", new HandedLabels().link(-1, 1, 1), UNKNOWN);
    due.is("the least int", new HandedLabels().link(Integer.MIN_VALUE, 1, 1), UNKNOWN);
    due.is("NONE", new HandedLabels().link(NONE, 1, 1), UNKNOWN);
  }

  static void promise02_firstBoxTooLarge() {
    due.is("link(7, 1, 1)", new HandedLabels().link(7, 1, 1), UNKNOWN);
    due.is("the greatest int", new HandedLabels().link(Integer.MAX_VALUE, 1, 1), UNKNOWN);
  }

  static void promise02_secondBoxTooSmall() {
    due.is("link(1, -1, 1)", new HandedLabels().link(1, -1, 1), UNKNOWN);
    due.is("the least int", new HandedLabels().link(1, Integer.MIN_VALUE, 1), UNKNOWN);
    due.is("NONE", new HandedLabels().link(1, NONE, 1), UNKNOWN);
  }

  static void promise02_secondBoxTooLarge() {
    due.is("link(1, 7, 1)", new HandedLabels().link(1, 7, 1), UNKNOWN);
    due.is("the greatest int", new HandedLabels().link(1, Integer.MAX_VALUE, 1), UNKNOWN);
  }

  static void promise02_costTooSmall() {
    due.is("COST 0", new HandedLabels().link(0, 1, 0), OUTSIDE);
    due.is("COST -1", new HandedLabels().link(0, 1, -1), OUTSIDE);
    due.is("the least int", new HandedLabels().link(0, 1, Integer.MIN_VALUE), OUTSIDE);
  }

  static void promise02_costTooLarge() {
    due.is("COST 10", new HandedLabels().link(0, 1, 10), OUTSIDE);
    due.is("the greatest int", new HandedLabels().link(0, 1, Integer.MAX_VALUE), OUTSIDE);
  }

  static void promise02_costLeastAndGreatest() {
    HandedLabels x = new HandedLabels();
    due.is("COST 1", x.link(0, 1, 1), 0);
    due.is("COST 9", x.link(1, 2, 9), 1);
    due.is("it is 1", x.ofLink(0, 2), 1);
    due.is("it is 9", x.ofLink(1, 2), 9);
  }

  static void promise02_theTwoAreOne() {
    HandedLabels x = new HandedLabels();
    for (int box = 0; box < 7; box++) {
      due.is("BOX " + box, x.link(box, box, 1), STATE);
    }
  }

  static void promise02_theyHaveALink() {
    HandedLabels x = new HandedLabels();
    x.link(0, 6, 1);
    x.link(2, 4, 1);
    due.is("the first", x.link(0, 6, 2), STATE);
    due.is("the last", x.link(2, 4, 2), STATE);
    due.is("one BOX of each", x.link(0, 4, 2), 2);
  }

  static void promise02_theyHaveALinkTurned() {
    HandedLabels x = new HandedLabels();
    x.link(0, 6, 1);
    x.link(4, 2, 1);
    due.is("the first", x.link(6, 0, 1), STATE);
    due.is("the last", x.link(2, 4, 1), STATE);
  }

  static void promise02_theyHaveALinkThatIsDown() {
    HandedLabels x = Nets.line(2);
    x.up(0, 0);
    due.is("DOWN", x.link(0, 1, 1), STATE);
  }

  static void promise02_twelfthIsTakenThirteenthIsFull() {
    HandedLabels x = new HandedLabels();
    for (int k = 0; k < 11; k++) {
      x.link(k % 7, (k + 1 + k / 7) % 7, 1);
    }
    due.is("eleven", x.many(0), 11);
    due.is("the twelfth", x.link(0, 3, 1), 11);
    due.is("the thirteenth", x.link(0, 4, 1), FULL);
    due.is("twelve", x.many(0), 12);
    due.is("no LINK 12", x.ofLink(12, 0), UNKNOWN);
  }

  static void promise02_downLinksCountForFull() {
    HandedLabels x = Nets.wheel();
    for (int l = 0; l < 12; l++) {
      x.up(l, 0);
    }
    due.is("all DOWN", x.link(0, 2, 1), FULL);
  }

  static void promise02_unknownAheadOfOutside() {
    due.is("first BOX", new HandedLabels().link(7, 1, 0), UNKNOWN);
    due.is("second BOX", new HandedLabels().link(1, -1, 10), UNKNOWN);
  }

  static void promise02_unknownAheadOfState() {
    due.is("link(7, 7, 1)", new HandedLabels().link(7, 7, 1), UNKNOWN);
    due.is("link(-1, -1, 1)", new HandedLabels().link(-1, -1, 1), UNKNOWN);
  }

  static void promise02_unknownAheadOfFull() {
    due.is("link(0, 7, 1)", Nets.wheel().link(0, 7, 1), UNKNOWN);
  }

  static void promise02_outsideAheadOfState() {
    due.is("the two are one", new HandedLabels().link(1, 1, 0), OUTSIDE);
    due.is("they have a LINK", Nets.line(2).link(0, 1, 10), OUTSIDE);
  }

  static void promise02_outsideAheadOfFull() {
    due.is("link(0, 2, 10)", Nets.wheel().link(0, 2, 10), OUTSIDE);
  }

  static void promise02_stateAheadOfFull() {
    due.is("the two are one", Nets.wheel().link(3, 3, 1), STATE);
    due.is("they have a LINK", Nets.wheel().link(0, 6, 1), STATE);
  }

  static void promise02_refusedTakesNoNumber() {
    HandedLabels x = Nets.line(2);
    x.link(7, 1, 1);
    x.link(1, 2, 10);
    x.link(1, 1, 1);
    x.link(0, 1, 1);
    due.is("the next number", x.link(1, 2, 1), 1);
  }

  static void promise02_comesUp() {
    HandedLabels x = Nets.line(2);
    x.up(0, 0);
    x.link(1, 2, 1);
    due.is("UP", x.ofLink(1, 3), 1);
    due.is("UP ones", x.many(1), 1);
  }

  static void promise02_overANewLinkNothingIsHandedYet() {
    HandedLabels x = Nets.settledLine(3);
    x.link(0, 2, 1);
    due.is("NEXT goes over it now", x.next(0, 0), 2);
    due.is("HANDED", x.handed(2, 2, 0, 0), NONE);
    due.is("KEPT", x.kept(0, 2, 0, 0), NONE);
    due.is("USED", x.used(0, 0), NONE);
    x.ticks(1);
    due.is("after a TICK", x.used(0, 0), 16);
  }

  // ---- promise 3: cost

  static void promise03_noLinksAtAll() {
    due.is("cost(0, 1)", new HandedLabels().cost(0, 1), UNKNOWN);
  }

  static void promise03_linkTooSmall() {
    due.is("cost(-1, 1)", Nets.line(2).cost(-1, 1), UNKNOWN);
    due.is("the least int", Nets.line(2).cost(Integer.MIN_VALUE, 1), UNKNOWN);
  }

  static void promise03_linkTooLarge() {
    due.is("as many as there are", Nets.line(3).cost(2, 1), UNKNOWN);
    due.is("12, all there", Nets.wheel().cost(12, 1), UNKNOWN);
    due.is("the greatest int", Nets.line(2).cost(Integer.MAX_VALUE, 1), UNKNOWN);
  }

  static void promise03_firstAndLastLink() {
    HandedLabels x = Nets.wheel();
    due.is("LINK 0", x.cost(0, 3), 2);
    due.is("LINK 11", x.cost(11, 4), 9);
    due.is("LINK 0 has it", x.ofLink(0, 2), 3);
    due.is("LINK 11 has it", x.ofLink(11, 2), 4);
    due.is("LINK 1 has not", x.ofLink(1, 2), 2);
    due.is("LINK 10 has not", x.ofLink(10, 2), 9);
  }

  static void promise03_costTooSmall() {
    due.is("0", Nets.line(2).cost(0, 0), OUTSIDE);
    due.is("-1", Nets.line(2).cost(0, -1), OUTSIDE);
    due.is("the least int", Nets.line(2).cost(0, Integer.MIN_VALUE), OUTSIDE);
  }

  static void promise03_costTooLarge() {
    due.is("10", Nets.line(2).cost(0, 10), OUTSIDE);
    due.is("the greatest int", Nets.line(2).cost(0, Integer.MAX_VALUE), OUTSIDE);
  }

  static void promise03_costLeastAndGreatest() {
    HandedLabels x = Nets.line(2);
    due.is("to 9", x.cost(0, 9), 1);
    due.is("to 1", x.cost(0, 1), 9);
    due.is("it is 1", x.ofLink(0, 2), 1);
  }

  static void promise03_whatItIsAlready() {
    HandedLabels x = Nets.line(2);
    due.is("1 once more", x.cost(0, 1), 1);
    due.is("1 still", x.ofLink(0, 2), 1);
  }

  static void promise03_unknownAheadOfOutside() {
    due.is("too large", Nets.line(2).cost(1, 0), UNKNOWN);
    due.is("too small", Nets.line(2).cost(-1, 10), UNKNOWN);
  }

  static void promise03_ofALinkThatIsDown() {
    HandedLabels x = Nets.line(2);
    x.end(0, 1);
    x.up(0, 0);
    due.is("what it was", x.cost(0, 5), 1);
    due.is("still DOWN", x.ofLink(0, 3), 0);
    due.is("no way", x.far(0, 0), NONE);
    x.up(0, 1);
    due.is("the way costs that", x.far(0, 0), 5);
  }

  static void promise03_labelsStayTillTheTick() {
    HandedLabels x = Nets.settledLine(3);
    int handed = x.many(2);
    x.cost(0, 9);
    due.is("HANDED", x.many(2), handed);
    due.is("KEPT", x.many(3), handed);
  }

  // ---- promise 4: up

  static void promise04_noLinksAtAll() {
    due.is("up(0, 1)", new HandedLabels().up(0, 1), UNKNOWN);
    due.is("up(0, 0)", new HandedLabels().up(0, 0), UNKNOWN);
  }

  static void promise04_linkTooSmall() {
    due.is("up(-1, 0)", Nets.line(2).up(-1, 0), UNKNOWN);
    due.is("the least int", Nets.line(2).up(Integer.MIN_VALUE, 0), UNKNOWN);
  }

  static void promise04_linkTooLarge() {
    due.is("as many as there are", Nets.line(3).up(2, 0), UNKNOWN);
    due.is("12, all there", Nets.wheel().up(12, 0), UNKNOWN);
    due.is("the greatest int", Nets.line(2).up(Integer.MAX_VALUE, 0), UNKNOWN);
  }

  static void promise04_valueTooSmall() {
    due.is("-1", Nets.line(2).up(0, -1), OUTSIDE);
    due.is("the least int", Nets.line(2).up(0, Integer.MIN_VALUE), OUTSIDE);
  }

  static void promise04_valueTooLarge() {
    due.is("2", Nets.line(2).up(0, 2), OUTSIDE);
    due.is("the greatest int", Nets.line(2).up(0, Integer.MAX_VALUE), OUTSIDE);
  }

  static void promise04_unknownAheadOfOutside() {
    due.is("too large", Nets.line(2).up(1, 2), UNKNOWN);
    due.is("too small", Nets.line(2).up(-1, -1), UNKNOWN);
  }

  static void promise04_upOnceMoreChangesNothing() {
    HandedLabels x = Nets.settledLine(3);
    due.is("was UP", x.up(0, 1), 1);
    due.is("HANDED stays", x.handed(1, 0, 0, 0), 16);
    due.is("KEPT stays", x.kept(0, 0, 0, 0), 16);
  }

  static void promise04_downOnceMore() {
    HandedLabels x = Nets.settledLine(3);
    due.is("was UP", x.up(0, 0), 1);
    due.is("was DOWN", x.up(0, 0), 0);
    due.is("is DOWN", x.ofLink(0, 3), 0);
    due.is("was DOWN, to UP", x.up(0, 1), 0);
    due.is("is UP", x.ofLink(0, 3), 1);
  }

  static void promise04_downTakesAwayWhatIsHandedOverItBothWays() {
    HandedLabels x = Nets.settledLine(3);
    due.is("ahead", x.handed(0, 0, 0, 0), 16);
    x.up(0, 0);
    due.is("by the lesser BOX", x.handed(0, 0, 0, 0), NONE);
    due.is("by the greater BOX", x.handed(1, 0, 0, 0), NONE);
  }

  static void promise04_downTakesAwayWhatIsKeptOverItBothWays() {
    HandedLabels x = Nets.settledLine(3);
    due.is("ahead", x.kept(1, 0, 0, 0), 16);
    x.up(0, 0);
    due.is("by the lesser BOX", x.kept(0, 0, 0, 0), NONE);
    due.is("by the greater BOX", x.kept(1, 0, 0, 0), NONE);
  }

  /** The first LINK, the last one and one between: of 96 places the 8 of that LINK, no others. */
  static void promise04_downLeavesOtherLinks() {
    for (int l : new int[] {0, 5, 11}) {
      HandedLabels x = Nets.settledWheel();
      x.up(l, 0);
      due.is("HANDED without LINK " + l, x.many(2), 88);
      due.is("KEPT without LINK " + l, x.many(3), 88);
      for (int c = 0; c < 4; c++) {
        due.is("by the lesser BOX", x.handed(x.ofLink(l, 0), l, c, 0), NONE);
        due.is("by the greater BOX", x.handed(x.ofLink(l, 1), l, c, 0), NONE);
      }
    }
  }

  static void promise04_whatIsHandedOverOthersStaysTillTheTick() {
    HandedLabels x = Nets.settledLine(3);
    x.up(1, 0);
    due.is("1 has no NEXT", x.next(1, 0), NONE);
    due.is("and hands all the same", x.handed(1, 0, 0, 1), 1);
    x.ticks(1);
    due.is("till the TICK", x.handed(1, 0, 0, 0), NONE);
  }

  static void promise04_upAgainBringsNothingBack() {
    HandedLabels x = Nets.settledLine(3);
    x.up(0, 0);
    x.up(0, 1);
    due.is("HANDED", x.handed(1, 0, 0, 0), NONE);
    due.is("KEPT", x.kept(0, 0, 0, 0), NONE);
    x.ticks(1);
    due.is("a TICK does", x.handed(1, 0, 0, 0), 16);
    due.is("a TICK does", x.kept(0, 0, 0, 0), 16);
  }

  static void promise04_allDown() {
    HandedLabels x = Nets.settledWheel();
    for (int l = 0; l < 12; l++) {
      x.up(l, 0);
    }
    due.is("UP ones", x.many(1), 0);
    due.is("HANDED", x.many(2), 0);
    due.is("KEPT", x.many(3), 0);
    due.is("the END's FAR", x.far(6, 0), 0);
    due.is("another's FAR", x.far(5, 0), NONE);
    due.is("nothing to do", x.settles(), 0);
  }

  // ---- promise 5: end

  static void promise05_classTooSmall() {
    due.is("end(-1, 0)", new HandedLabels().end(-1, 0), UNKNOWN);
    due.is("the least int", new HandedLabels().end(Integer.MIN_VALUE, 0), UNKNOWN);
  }

  static void promise05_classTooLarge() {
    due.is("end(4, 0)", new HandedLabels().end(4, 0), UNKNOWN);
    due.is("the greatest int", new HandedLabels().end(Integer.MAX_VALUE, 0), UNKNOWN);
  }

  static void promise05_boxTooSmall() {
    for (int box : new int[] {-1, -8, -10, Integer.MIN_VALUE}) {
      due.is("end(0, " + box + ")", new HandedLabels().end(0, box), OUTSIDE);
    }
  }

  static void promise05_boxTooLarge() {
    due.is("end(0, 7)", new HandedLabels().end(0, 7), OUTSIDE);
    due.is("the greatest int", new HandedLabels().end(0, Integer.MAX_VALUE), OUTSIDE);
  }

  static void promise05_unknownAheadOfOutside() {
    due.is("end(4, 7)", new HandedLabels().end(4, 7), UNKNOWN);
    due.is("end(-1, -1)", new HandedLabels().end(-1, -1), UNKNOWN);
    due.is("end(4, NONE)", new HandedLabels().end(4, NONE), UNKNOWN);
  }

  static void promise05_firstAndLastClass() {
    HandedLabels x = new HandedLabels();
    due.is("CLASS 0", x.end(0, 5), NONE);
    due.is("CLASS 3", x.end(3, 2), NONE);
    due.is("CLASS 0 has it", x.end(0, 5), 5);
    due.is("CLASS 3 has it", x.end(3, 2), 2);
    due.is("CLASS 1 has not", x.end(1, NONE), NONE);
    due.is("CLASS 2 has not", x.end(2, NONE), NONE);
  }

  static void promise05_firstAndLastBox() {
    HandedLabels x = new HandedLabels();
    due.is("BOX 0", x.end(0, 0), NONE);
    due.is("BOX 6", x.end(0, 6), 0);
    due.is("it was 6", x.end(0, 6), 6);
  }

  static void promise05_noneAndNoneAgain() {
    HandedLabels x = new HandedLabels();
    due.is("none, as it is", x.end(0, NONE), NONE);
    x.end(0, 3);
    due.is("none in place of 3", x.end(0, NONE), 3);
    due.is("none still", x.end(0, NONE), NONE);
    due.is("no ENDS", x.many(4), 0);
  }

  static void promise05_oneBoxForAllClasses() {
    HandedLabels x = Nets.line(2);
    for (int c = 0; c < 4; c++) {
      due.is("CLASS " + c, x.end(c, 1), NONE);
    }
    x.ticks(1);
    for (int c = 0; c < 4; c++) {
      due.is("LABEL of " + c, x.handed(1, 0, c, 0), 16 + c);
    }
  }

  static void promise05_handedAndKeptStayTillTheTick() {
    HandedLabels x = Nets.settledLine(3);
    x.end(0, NONE);
    due.is("HANDED by what was the END", x.handed(2, 1, 0, 1), 0);
    due.is("HANDED by another", x.handed(1, 0, 0, 1), 1);
    due.is("KEPT", x.kept(0, 0, 0, 1), 1);
    x.ticks(1);
    due.is("HANDED after the TICK", x.many(2), 0);
    due.is("KEPT after the TICK", x.many(3), 0);
  }

  static void promise05_anotherEndStaysTillTheTick() {
    HandedLabels x = Nets.settledLine(3);
    x.end(0, 0);
    due.is("HANDED by what was the END", x.handed(2, 1, 0, 1), 0);
    due.is("HANDED by the new one", x.handed(0, 0, 0, 1), 2);
    x.ticks(1);
    due.is("HANDED by the new one after the TICK", x.handed(0, 0, 0, 1), 0);
  }

  // ---- promise 6: ofLink

  static void promise06_noLinksAtAll() {
    due.is("ofLink(0, 0)", new HandedLabels().ofLink(0, 0), UNKNOWN);
  }

  static void promise06_linkTooSmall() {
    due.is("ofLink(-1, 0)", Nets.line(2).ofLink(-1, 0), UNKNOWN);
    due.is("the least int", Nets.line(2).ofLink(Integer.MIN_VALUE, 0), UNKNOWN);
  }

  static void promise06_linkTooLarge() {
    due.is("as many as there are", Nets.line(3).ofLink(2, 0), UNKNOWN);
    due.is("12, all there", Nets.wheel().ofLink(12, 0), UNKNOWN);
    due.is("the greatest int", Nets.line(2).ofLink(Integer.MAX_VALUE, 0), UNKNOWN);
  }

  static void promise06_whatTooSmall() {
    due.is("-1", Nets.line(2).ofLink(0, -1), OUTSIDE);
    due.is("the least int", Nets.line(2).ofLink(0, Integer.MIN_VALUE), OUTSIDE);
  }

  static void promise06_whatTooLarge() {
    due.is("4", Nets.line(2).ofLink(0, 4), OUTSIDE);
    due.is("the greatest int", Nets.line(2).ofLink(0, Integer.MAX_VALUE), OUTSIDE);
  }

  static void promise06_unknownAheadOfOutside() {
    due.is("too large", Nets.line(2).ofLink(1, 4), UNKNOWN);
    due.is("too small", Nets.line(2).ofLink(-1, -1), UNKNOWN);
  }

  static void promise06_lesserAndGreaterHoweverTheyCame() {
    HandedLabels x = new HandedLabels();
    x.link(2, 5, 7);
    x.link(6, 3, 4);
    due.is("lesser, came first", x.ofLink(0, 0), 2);
    due.is("greater, came second", x.ofLink(0, 1), 5);
    due.is("lesser, came second", x.ofLink(1, 0), 3);
    due.is("greater, came first", x.ofLink(1, 1), 6);
  }

  static void promise06_firstAndLastLink() {
    HandedLabels x = Nets.wheel();
    x.up(11, 0);
    int[] first = {0, 6, 2, 1};
    int[] last = {0, 5, 9, 0};
    for (int what = 0; what < 4; what++) {
      due.is("LINK 0, " + what, x.ofLink(0, what), first[what]);
      due.is("LINK 11, " + what, x.ofLink(11, what), last[what]);
    }
  }

  // ---- promise 7: next

  static void promise07_boxTooSmall() {
    due.is("next(-1, 0)", Nets.line(2).next(-1, 0), UNKNOWN);
    due.is("the least int", Nets.line(2).next(Integer.MIN_VALUE, 0), UNKNOWN);
  }

  static void promise07_boxTooLarge() {
    due.is("next(7, 0)", Nets.line(2).next(7, 0), UNKNOWN);
    due.is("the greatest int", Nets.line(2).next(Integer.MAX_VALUE, 0), UNKNOWN);
  }

  static void promise07_classTooSmall() {
    due.is("next(0, -1)", Nets.line(2).next(0, -1), UNKNOWN);
    due.is("the least int", Nets.line(2).next(0, Integer.MIN_VALUE), UNKNOWN);
  }

  static void promise07_classTooLarge() {
    due.is("next(0, 4)", Nets.line(2).next(0, 4), UNKNOWN);
    due.is("the greatest int", Nets.line(2).next(0, Integer.MAX_VALUE), UNKNOWN);
  }

  static void promise07_theEndHasNone() {
    HandedLabels x = Nets.line(3);
    x.end(0, 1);
    due.is("the END", x.next(1, 0), NONE);
    due.is("beside it", x.next(0, 0), 1);
    due.is("on its other side", x.next(2, 0), 1);
  }

  static void promise07_noneWithoutEnd() {
    HandedLabels x = Nets.line(3);
    x.end(1, 2);
    due.is("no END", x.next(0, 0), NONE);
    x.end(1, NONE);
    due.is("no END any more", x.next(0, 1), NONE);
  }

  static void promise07_noneWithoutAWay() {
    HandedLabels x = Nets.line(3);
    x.end(0, 2);
    due.is("no LINK", x.next(6, 0), NONE);
    x.up(1, 0);
    due.is("the END is cut off", x.next(1, 0), NONE);
    due.is("one further", x.next(0, 0), NONE);
  }

  static void promise07_firstAndLastBoxAndClass() {
    HandedLabels x = Nets.line(7);
    x.end(0, 6);
    x.end(3, 0);
    due.is("next(0, 0)", x.next(0, 0), 1);
    due.is("next(6, 3)", x.next(6, 3), 5);
    due.is("next(1, 3)", x.next(1, 3), 0);
    due.is("next(5, 0)", x.next(5, 0), 6);
  }

  /** Three ways of 5 from BOX 6; the LINKS came in another order than the BOXES. */
  static void promise07_ofSeveralTheLeastBox() {
    HandedLabels x = new HandedLabels();
    x.link(6, 5, 1);
    x.link(6, 2, 2);
    x.link(6, 4, 3);
    x.link(0, 5, 4);
    x.link(2, 0, 3);
    x.link(4, 0, 2);
    x.end(0, 0);
    due.is("of 2, 4, 5", x.next(6, 0), 2);
    x.up(1, 0);
    due.is("of 4, 5", x.next(6, 0), 4);
    x.up(2, 0);
    due.is("5 alone", x.next(6, 0), 5);
  }

  static void promise07_aNearerBoxIsTakenAheadOfALesserOne() {
    HandedLabels x = new HandedLabels();
    x.link(6, 0, 1);
    x.link(0, 5, 3);
    x.link(6, 4, 1);
    x.link(4, 5, 2);
    x.end(0, 5);
    due.is("by 4", x.next(6, 0), 4);
    x.cost(3, 3);
    due.is("as far: by 0", x.next(6, 0), 0);
  }

  static void promise07_fewLinksAreNotTheLeastSum() {
    HandedLabels x = Nets.line(4);
    x.link(0, 3, 4);
    x.end(0, 3);
    due.is("1 and 1 and 1 are less than 4", x.next(0, 0), 1);
    x.cost(3, 3);
    due.is("as much as 3: the lesser BOX", x.next(0, 0), 1);
    x.cost(3, 2);
    due.is("more than 2", x.next(0, 0), 3);
  }

  static void promise07_notOverALinkThatIsDown() {
    HandedLabels x = Nets.line(3);
    x.link(0, 2, 9);
    x.end(0, 2);
    due.is("by 1", x.next(0, 0), 1);
    x.up(0, 0);
    due.is("straight", x.next(0, 0), 2);
    x.up(0, 1);
    due.is("by 1 again", x.next(0, 0), 1);
  }

  static void promise07_isAsLinksAreNow() {
    HandedLabels x = Nets.settledLine(3);
    x.link(0, 2, 1);
    due.is("a LINK comes", x.next(0, 0), 2);
    x.cost(2, 9);
    due.is("it costs more", x.next(0, 0), 1);
    x.end(0, 0);
    due.is("another END", x.next(1, 0), 0);
    due.is("the END", x.next(0, 0), NONE);
  }

  static void promise07_ofAllClassesAsLinksAreNow() {
    HandedLabels x = Nets.line(3);
    for (int c = 0; c < 4; c++) {
      x.end(c, 2);
    }
    x.link(0, 2, 1);
    for (int c = 0; c < 4; c++) {
      due.is("a LINK comes", x.next(0, c), 2);
    }
    x.cost(2, 9);
    for (int c = 0; c < 4; c++) {
      due.is("it costs more", x.next(0, c), 1);
    }
    x.up(0, 0);
    for (int c = 0; c < 4; c++) {
      due.is("another is DOWN", x.next(0, c), 2);
    }
  }

  // ---- promise 8: far

  static void promise08_boxTooSmall() {
    due.is("far(-1, 0)", Nets.line(2).far(-1, 0), UNKNOWN);
    due.is("the least int", Nets.line(2).far(Integer.MIN_VALUE, 0), UNKNOWN);
  }

  static void promise08_boxTooLarge() {
    due.is("far(7, 0)", Nets.line(2).far(7, 0), UNKNOWN);
    due.is("the greatest int", Nets.line(2).far(Integer.MAX_VALUE, 0), UNKNOWN);
  }

  static void promise08_classTooSmall() {
    due.is("far(0, -1)", Nets.line(2).far(0, -1), UNKNOWN);
    due.is("the least int", Nets.line(2).far(0, Integer.MIN_VALUE), UNKNOWN);
  }

  static void promise08_classTooLarge() {
    due.is("far(0, 4)", Nets.line(2).far(0, 4), UNKNOWN);
    due.is("the greatest int", Nets.line(2).far(0, Integer.MAX_VALUE), UNKNOWN);
  }

  static void promise08_theEndIsZero() {
    HandedLabels x = new HandedLabels();
    x.end(0, 0);
    x.end(3, 6);
    due.is("BOX 0, no LINKS", x.far(0, 0), 0);
    due.is("BOX 6, no LINKS", x.far(6, 3), 0);
  }

  static void promise08_noneWithoutEnd() {
    HandedLabels x = Nets.line(3);
    due.is("no END", x.far(0, 0), NONE);
    x.end(0, 1);
    x.end(0, NONE);
    due.is("no END any more", x.far(0, 0), NONE);
    due.is("what was the END", x.far(1, 0), NONE);
  }

  static void promise08_noneWithoutAWay() {
    HandedLabels x = Nets.line(3);
    x.end(0, 2);
    due.is("no LINK", x.far(6, 0), NONE);
    x.up(1, 0);
    due.is("cut off", x.far(1, 0), NONE);
    due.is("one further", x.far(0, 0), NONE);
    due.is("the END", x.far(2, 0), 0);
  }

  /** LINKS in the order that helps least, to either end. */
  static void promise08_theFarthest() {
    HandedLabels x = new HandedLabels();
    for (int box = 0; box < 6; box++) {
      x.link(box, box + 1, 9);
    }
    x.end(0, 6);
    x.end(3, 0);
    due.is("six times 9", x.far(0, 0), 54);
    due.is("six times 9, back", x.far(6, 3), 54);
    due.is("NEXT", x.next(0, 0), 1);
  }

  static void promise08_theLeast() {
    HandedLabels x = Nets.line(2);
    x.end(0, 1);
    due.is("1", x.far(0, 0), 1);
  }

  static void promise08_isAsLinksAreNow() {
    HandedLabels x = Nets.line(3);
    x.end(0, 2);
    due.is("at first", x.far(0, 0), 2);
    x.cost(0, 8);
    due.is("another COST", x.far(0, 0), 9);
    x.link(0, 2, 7);
    due.is("another LINK", x.far(0, 0), 7);
    x.up(2, 0);
    due.is("it is DOWN", x.far(0, 0), 9);
    x.end(0, 1);
    due.is("another END", x.far(0, 0), 8);
    due.is("for all BOXES", x.far(2, 0), 1);
  }

  static void promise08_ofAllClassesAsLinksAreNow() {
    HandedLabels x = Nets.line(3);
    for (int c = 0; c < 4; c++) {
      x.end(c, 2);
    }
    x.cost(0, 8);
    for (int c = 0; c < 4; c++) {
      due.is("another COST", x.far(0, c), 9);
    }
    x.link(0, 2, 7);
    for (int c = 0; c < 4; c++) {
      due.is("another LINK", x.far(0, c), 7);
    }
    x.up(2, 0);
    for (int c = 0; c < 4; c++) {
      due.is("it is DOWN", x.far(0, c), 9);
    }
  }

  static void promise08_eachClassForItself() {
    HandedLabels x = Nets.line(7);
    x.end(0, 0);
    x.end(3, 6);
    for (int box = 0; box < 7; box++) {
      due.is("CLASS 0", x.far(box, 0), box);
      due.is("CLASS 1", x.far(box, 1), NONE);
      due.is("CLASS 2", x.far(box, 2), NONE);
      due.is("CLASS 3", x.far(box, 3), 6 - box);
    }
  }
}
