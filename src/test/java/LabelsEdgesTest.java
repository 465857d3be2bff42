/** The boundary cases of promises 9 to 16, a test for each; those of 11 are in TickEdgesTest. */
public final class LabelsEdgesTest {
  private static final int UNKNOWN = Nets.UNKNOWN, OUTSIDE = Nets.OUTSIDE, NONE = Nets.NONE;
  private static final int ASKED = Nets.ASKED, SPARING = Nets.SPARING;
  private static final int LINKWISE = Nets.LINKWISE, EARLY = Nets.EARLY;
  private static final int ORDERED = Nets.ORDERED, LIMIT = Nets.LIMIT;

  private static final Due due = new Due("LabelsEdgesTest");

  public static void main(String[] args) throws Exception {
    Cases.run(LabelsEdgesTest.class, due, 9, 10, 12, 13, 14, 15, 16);
  }

  // ---- promise 9: mode

  static void promise09_boxTooSmall() {
    due.is("mode(-1, 0, 0)", new HandedLabels().mode(-1, 0, 0), UNKNOWN);
    due.is("the least int", new HandedLabels().mode(Integer.MIN_VALUE, 0, 0), UNKNOWN);
  }

  static void promise09_boxTooLarge() {
    due.is("mode(7, 0, 0)", new HandedLabels().mode(7, 0, 0), UNKNOWN);
    due.is("the greatest int", new HandedLabels().mode(Integer.MAX_VALUE, 0, 0), UNKNOWN);
  }

  static void promise09_whichTooSmall() {
    due.is("mode(1, -1, 0)", new HandedLabels().mode(1, -1, 0), OUTSIDE);
    due.is("the least int", new HandedLabels().mode(1, Integer.MIN_VALUE, 0), OUTSIDE);
  }

  static void promise09_whichTooLarge() {
    due.is("mode(1, 4, 0)", new HandedLabels().mode(1, 4, 0), OUTSIDE);
    due.is("the greatest int", new HandedLabels().mode(1, Integer.MAX_VALUE, 0), OUTSIDE);
  }

  static void promise09_valueTooSmall() {
    for (int which = 0; which < 4; which++) {
      due.is("-1", new HandedLabels().mode(0, which, -1), OUTSIDE);
      due.is("the least int", new HandedLabels().mode(0, which, Integer.MIN_VALUE), OUTSIDE);
    }
  }

  static void promise09_valueTooLarge() {
    for (int which = 0; which < 4; which++) {
      due.is("2", new HandedLabels().mode(0, which, 2), OUTSIDE);
      due.is("the greatest int", new HandedLabels().mode(0, which, Integer.MAX_VALUE), OUTSIDE);
    }
  }

  static void promise09_unknownAheadOfOutside() {
    due.is("which", new HandedLabels().mode(7, 4, 0), UNKNOWN);
    due.is("the value", new HandedLabels().mode(-1, 0, 2), UNKNOWN);
  }

  static void promise09_eachModeOfEachBoxForItself() {
    for (int box : new int[] {0, 3, 6}) {
      for (int which = 0; which < 4; which++) {
        HandedLabels x = new HandedLabels();
        x.mode(box, which, 1);
        int ones = 0;
        for (int of = 0; of < 28; of++) {
          ones += x.mode(of / 4, of % 4, 0);
        }
        due.is("one of all", ones, 1);
        x.mode(box, which, 1);
        due.is("and that one", x.mode(box, which, 1), 1);
      }
    }
  }

  static void promise09_linkwiseAsAheadLeavesWhatIsHanded() {
    HandedLabels x = Nets.settledLine(3);
    due.is("0 once more", x.mode(1, LINKWISE, 0), 0);
    due.is("HANDED", x.handed(1, 0, 0, 0), 16);
    x.mode(1, LINKWISE, 1);
    x.ticks(1);
    due.is("1 once more", x.mode(1, LINKWISE, 1), 1);
    due.is("HANDED", x.handed(1, 0, 0, 0), 16);
  }

  static void promise09_linkwiseAnotherHandsNothingAnyMore() {
    HandedLabels x = Nets.settledWheel();
    x.mode(6, LINKWISE, 1);
    for (int l = 0; l < 6; l++) {
      for (int c = 0; c < 4; c++) {
        due.is("over LINK " + l, x.handed(6, l, c, 0), NONE);
      }
    }
    due.is("others hand as ahead", x.many(2), 96 - 24);
    due.is("KEPT stays, of it too", x.many(3), 96);
  }

  static void promise09_linkwiseBackHandsNothingEither() {
    HandedLabels x = Nets.settledLine(3);
    x.mode(1, LINKWISE, 1);
    x.ticks(1);
    due.is("HANDED LINKWISE", x.handed(1, 0, 0, 0), 16);
    x.mode(1, LINKWISE, 0);
    due.is("nothing", x.handed(1, 0, 0, 0), NONE);
    due.is("nothing", x.handed(1, 1, 0, 0), NONE);
  }

  static void promise09_linkwiseThereAndBackBringsNothingBack() {
    HandedLabels x = Nets.settledLine(3);
    x.mode(1, LINKWISE, 1);
    x.mode(1, LINKWISE, 0);
    due.is("still nothing", x.handed(1, 0, 0, 0), NONE);
    due.is("the TICK changes that", x.ticks(1), 1);
    due.is("it hands again", x.handed(1, 0, 0, 0), 16);
  }

  /** CLASS 1 had 17, and CLASS 0 is gone: with nothing HANDED ahead, 1 begins at 16. */
  static void promise09_linkwiseNumbersBeginAnew() {
    HandedLabels x = Nets.line(2);
    x.end(0, 1);
    x.end(1, 1);
    x.ticks(1);
    x.end(0, NONE);
    x.mode(1, LINKWISE, 1);
    due.is("ahead of the TICK", x.handed(1, 0, 1, 0), NONE);
    x.ticks(1);
    due.is("anew", x.handed(1, 0, 1, 0), 16);
  }

  static void promise09_otherModesLeaveWhatIsHandedAndKept() {
    for (int which : new int[] {ASKED, SPARING, EARLY}) {
      HandedLabels x = Nets.settledWheel();
      for (int box = 0; box < 7; box++) {
        x.mode(box, which, 1);
      }
      due.is("HANDED, MODE " + which, x.many(2), 96);
      due.is("KEPT, MODE " + which, x.many(3), 96);
    }
  }

  static void promise09_refusedLinkwiseLeavesWhatIsHanded() {
    HandedLabels x = Nets.settledLine(3);
    x.mode(1, LINKWISE, 2);
    x.mode(1, LINKWISE, -1);
    due.is("HANDED", x.handed(1, 0, 0, 0), 16);
    due.is("still 0", x.mode(1, LINKWISE, 0), 0);
  }

  static void promise09_aBoxWithoutLinks() {
    HandedLabels x = Nets.settledLine(3);
    due.is("LINKWISE of BOX 6", x.mode(6, LINKWISE, 1), 0);
    due.is("HANDED", x.many(2), 4);
  }

  // ---- promise 10: setting

  static void promise10_whichTooSmall() {
    due.is("setting(-1, 1)", new HandedLabels().setting(-1, 1), OUTSIDE);
    due.is("the least int", new HandedLabels().setting(Integer.MIN_VALUE, 1), OUTSIDE);
  }

  static void promise10_whichTooLarge() {
    due.is("setting(2, 1)", new HandedLabels().setting(2, 1), OUTSIDE);
    due.is("the greatest int", new HandedLabels().setting(Integer.MAX_VALUE, 1), OUTSIDE);
  }

  static void promise10_orderedTooSmall() {
    due.is("-1", new HandedLabels().setting(ORDERED, -1), OUTSIDE);
    due.is("the least int", new HandedLabels().setting(ORDERED, Integer.MIN_VALUE), OUTSIDE);
  }

  static void promise10_orderedTooLarge() {
    due.is("2", new HandedLabels().setting(ORDERED, 2), OUTSIDE);
    due.is("as good a LIMIT", new HandedLabels().setting(ORDERED, 9), OUTSIDE);
    due.is("the greatest int", new HandedLabels().setting(ORDERED, Integer.MAX_VALUE), OUTSIDE);
  }

  static void promise10_limitTooSmall() {
    due.is("0", new HandedLabels().setting(LIMIT, 0), OUTSIDE);
    due.is("-1", new HandedLabels().setting(LIMIT, -1), OUTSIDE);
    due.is("the least int", new HandedLabels().setting(LIMIT, Integer.MIN_VALUE), OUTSIDE);
  }

  static void promise10_limitTooLarge() {
    due.is("10", new HandedLabels().setting(LIMIT, 10), OUTSIDE);
    due.is("the greatest int", new HandedLabels().setting(LIMIT, Integer.MAX_VALUE), OUTSIDE);
  }

  static void promise10_orderedBothValues() {
    HandedLabels x = new HandedLabels();
    due.is("to 0", x.setting(ORDERED, 0), 1);
    due.is("0 once more", x.setting(ORDERED, 0), 0);
    due.is("to 1", x.setting(ORDERED, 1), 0);
    due.is("1 once more", x.setting(ORDERED, 1), 1);
  }

  static void promise10_limitLeastAndGreatest() {
    HandedLabels x = new HandedLabels();
    due.is("to 1", x.setting(LIMIT, 1), 7);
    due.is("to 9", x.setting(LIMIT, 9), 1);
    due.is("9 once more", x.setting(LIMIT, 9), 9);
  }

  static void promise10_eachSettingForItself() {
    HandedLabels x = new HandedLabels();
    x.setting(LIMIT, 3);
    due.is("ORDERED", x.setting(ORDERED, 0), 1);
    due.is("LIMIT", x.setting(LIMIT, 3), 3);
  }

  static void promise10_refusedChangesNoSetting() {
    HandedLabels x = new HandedLabels();
    x.setting(ORDERED, 2);
    x.setting(LIMIT, 10);
    x.setting(LIMIT, 0);
    x.setting(2, 1);
    x.setting(-1, 1);
    due.is("ORDERED", x.setting(ORDERED, 1), 1);
    due.is("LIMIT", x.setting(LIMIT, 7), 7);
  }

  static void promise10_labelsStayTillTheTick() {
    HandedLabels x = Nets.settledLine(4);
    int handed = x.many(2);
    x.setting(LIMIT, 1);
    due.is("HANDED", x.many(2), handed);
    x.ticks(1);
    due.is("the END, and the BOX beside it both ways", x.many(2), 3);
  }

  // ---- promise 12: handed

  static void promise12_boxTooSmall() {
    due.is("handed(-1, 0, 0, 0)", Nets.settledLine(2).handed(-1, 0, 0, 0), UNKNOWN);
    due.is("the least int", Nets.settledLine(2).handed(Integer.MIN_VALUE, 0, 0, 0), UNKNOWN);
  }

  static void promise12_boxTooLarge() {
    due.is("handed(7, 0, 0, 0)", Nets.settledLine(2).handed(7, 0, 0, 0), UNKNOWN);
    due.is("the greatest int", Nets.settledLine(2).handed(Integer.MAX_VALUE, 0, 0, 0), UNKNOWN);
  }

  static void promise12_noLinksAtAll() {
    due.is("handed(0, 0, 0, 0)", new HandedLabels().handed(0, 0, 0, 0), UNKNOWN);
  }

  static void promise12_linkTooSmall() {
    due.is("handed(0, -1, 0, 0)", Nets.settledLine(2).handed(0, -1, 0, 0), UNKNOWN);
    due.is("the least int", Nets.settledLine(2).handed(0, Integer.MIN_VALUE, 0, 0), UNKNOWN);
  }

  static void promise12_linkTooLarge() {
    due.is("as many as there are", Nets.settledLine(2).handed(0, 1, 0, 0), UNKNOWN);
    due.is("12, all there", Nets.settledWheel().handed(0, 12, 0, 0), UNKNOWN);
    due.is("the greatest int", Nets.settledLine(2).handed(0, Integer.MAX_VALUE, 0, 0), UNKNOWN);
  }

  static void promise12_classTooSmall() {
    due.is("handed(0, 0, -1, 0)", Nets.settledLine(2).handed(0, 0, -1, 0), UNKNOWN);
    due.is("the least int", Nets.settledLine(2).handed(0, 0, Integer.MIN_VALUE, 0), UNKNOWN);
  }

  static void promise12_classTooLarge() {
    due.is("handed(0, 0, 4, 0)", Nets.settledLine(2).handed(0, 0, 4, 0), UNKNOWN);
    due.is("the greatest int", Nets.settledLine(2).handed(0, 0, Integer.MAX_VALUE, 0), UNKNOWN);
  }

  static void promise12_linkNotAtTheBox() {
    due.is("handed(0, 1, 0, 0)", Nets.settledLine(3).handed(0, 1, 0, 0), UNKNOWN);
    due.is("handed(2, 0, 0, 0)", Nets.settledLine(3).handed(2, 0, 0, 0), UNKNOWN);
    due.is("a BOX without LINKS", Nets.settledLine(3).handed(6, 0, 0, 0), UNKNOWN);
  }

  static void promise12_whatTooSmall() {
    due.is("-1", Nets.settledLine(2).handed(0, 0, 0, -1), OUTSIDE);
    due.is("the least int", Nets.settledLine(2).handed(0, 0, 0, Integer.MIN_VALUE), OUTSIDE);
  }

  static void promise12_whatTooLarge() {
    due.is("2", Nets.settledLine(2).handed(0, 0, 0, 2), OUTSIDE);
    due.is("the greatest int", Nets.settledLine(2).handed(0, 0, 0, Integer.MAX_VALUE), OUTSIDE);
  }

  static void promise12_unknownAheadOfOutside() {
    HandedLabels x = Nets.settledLine(3);
    due.is("BOX", x.handed(7, 0, 0, 2), UNKNOWN);
    due.is("LINK", x.handed(0, 2, 0, 2), UNKNOWN);
    due.is("CLASS", x.handed(0, 0, 4, -1), UNKNOWN);
    due.is("not at the BOX", x.handed(0, 1, 0, -1), UNKNOWN);
  }

  static void promise12_outsideThoughNothingIsHanded() {
    HandedLabels x = Nets.line(2);
    due.is("2", x.handed(0, 0, 0, 2), OUTSIDE);
    due.is("-1", x.handed(0, 0, 0, -1), OUTSIDE);
  }

  static void promise12_nothingIsNoneNotZero() {
    HandedLabels x = Nets.line(2);
    due.is("LABEL", x.handed(0, 0, 0, 0), NONE);
    due.is("COUNT", x.handed(0, 0, 0, 1), NONE);
    x.end(0, 1);
    x.ticks(1);
    due.is("COUNT 0 of the END", x.handed(1, 0, 0, 1), 0);
    due.is("nothing by the other one yet", x.handed(0, 0, 0, 1), NONE);
  }

  static void promise12_overALinkThatIsDown() {
    HandedLabels x = Nets.settledLine(2);
    x.up(0, 0);
    due.is("LABEL", x.handed(1, 0, 0, 0), NONE);
    due.is("COUNT", x.handed(1, 0, 0, 1), NONE);
    due.is("OUTSIDE", x.handed(1, 0, 0, 2), OUTSIDE);
  }

  static void promise12_firstAndLastPlace() {
    HandedLabels x = Nets.settledWheel();
    due.is("BOX 0, LINK 0, CLASS 0", x.handed(0, 0, 0, 0), 16);
    due.is("its COUNT", x.handed(0, 0, 0, 1), 1);
    due.is("BOX 6, LINK 0, CLASS 0", x.handed(6, 0, 0, 1), 0);
    due.is("BOX 5, LINK 11, CLASS 3", x.handed(5, 11, 3, 0), 19);
    due.is("its COUNT", x.handed(5, 11, 3, 1), 1);
    due.is("BOX 0, LINK 11, CLASS 3", x.handed(0, 11, 3, 0), 19);
  }

  // ---- promise 13: kept

  static void promise13_boxTooSmall() {
    due.is("kept(-1, 0, 0, 0)", Nets.settledLine(2).kept(-1, 0, 0, 0), UNKNOWN);
    due.is("the least int", Nets.settledLine(2).kept(Integer.MIN_VALUE, 0, 0, 0), UNKNOWN);
  }

  static void promise13_boxTooLarge() {
    due.is("kept(7, 0, 0, 0)", Nets.settledLine(2).kept(7, 0, 0, 0), UNKNOWN);
    due.is("the greatest int", Nets.settledLine(2).kept(Integer.MAX_VALUE, 0, 0, 0), UNKNOWN);
  }

  static void promise13_noLinksAtAll() {
    due.is("kept(0, 0, 0, 0)", new HandedLabels().kept(0, 0, 0, 0), UNKNOWN);
  }

  static void promise13_linkTooSmall() {
    due.is("kept(0, -1, 0, 0)", Nets.settledLine(2).kept(0, -1, 0, 0), UNKNOWN);
    due.is("the least int", Nets.settledLine(2).kept(0, Integer.MIN_VALUE, 0, 0), UNKNOWN);
  }

  static void promise13_linkTooLarge() {
    due.is("as many as there are", Nets.settledLine(2).kept(0, 1, 0, 0), UNKNOWN);
    due.is("12, all there", Nets.settledWheel().kept(0, 12, 0, 0), UNKNOWN);
    due.is("the greatest int", Nets.settledLine(2).kept(0, Integer.MAX_VALUE, 0, 0), UNKNOWN);
  }

  static void promise13_classTooSmall() {
    due.is("kept(0, 0, -1, 0)", Nets.settledLine(2).kept(0, 0, -1, 0), UNKNOWN);
    due.is("the least int", Nets.settledLine(2).kept(0, 0, Integer.MIN_VALUE, 0), UNKNOWN);
  }

  static void promise13_classTooLarge() {
    due.is("kept(0, 0, 4, 0)", Nets.settledLine(2).kept(0, 0, 4, 0), UNKNOWN);
    due.is("the greatest int", Nets.settledLine(2).kept(0, 0, Integer.MAX_VALUE, 0), UNKNOWN);
  }

  static void promise13_linkNotAtTheBox() {
    due.is("kept(0, 1, 0, 0)", Nets.settledLine(3).kept(0, 1, 0, 0), UNKNOWN);
    due.is("kept(2, 0, 0, 0)", Nets.settledLine(3).kept(2, 0, 0, 0), UNKNOWN);
    due.is("a BOX without LINKS", Nets.settledLine(3).kept(6, 0, 0, 0), UNKNOWN);
  }

  static void promise13_whatTooSmall() {
    due.is("-1", Nets.settledLine(2).kept(0, 0, 0, -1), OUTSIDE);
    due.is("the least int", Nets.settledLine(2).kept(0, 0, 0, Integer.MIN_VALUE), OUTSIDE);
  }

  static void promise13_whatTooLarge() {
    due.is("2", Nets.settledLine(2).kept(0, 0, 0, 2), OUTSIDE);
    due.is("the greatest int", Nets.settledLine(2).kept(0, 0, 0, Integer.MAX_VALUE), OUTSIDE);
  }

  static void promise13_unknownAheadOfOutside() {
    HandedLabels x = Nets.settledLine(3);
    due.is("BOX", x.kept(7, 0, 0, 2), UNKNOWN);
    due.is("LINK", x.kept(0, 2, 0, 2), UNKNOWN);
    due.is("CLASS", x.kept(0, 0, 4, -1), UNKNOWN);
    due.is("not at the BOX", x.kept(0, 1, 0, -1), UNKNOWN);
  }

  static void promise13_outsideThoughNothingIsKept() {
    HandedLabels x = Nets.line(2);
    due.is("2", x.kept(0, 0, 0, 2), OUTSIDE);
    due.is("-1", x.kept(0, 0, 0, -1), OUTSIDE);
  }

  static void promise13_nothingIsNoneNotZero() {
    HandedLabels x = Nets.line(2);
    due.is("LABEL", x.kept(0, 0, 0, 0), NONE);
    due.is("COUNT", x.kept(0, 0, 0, 1), NONE);
    x.end(0, 1);
    x.ticks(1);
    due.is("COUNT 0 from the END", x.kept(0, 0, 0, 1), 0);
    due.is("LABEL from the END", x.kept(0, 0, 0, 0), 16);
    due.is("nothing by the END yet", x.kept(1, 0, 0, 1), NONE);
  }

  static void promise13_overALinkThatIsDown() {
    HandedLabels x = Nets.settledLine(2);
    x.up(0, 0);
    due.is("LABEL", x.kept(0, 0, 0, 0), NONE);
    due.is("COUNT", x.kept(0, 0, 0, 1), NONE);
    due.is("OUTSIDE", x.kept(0, 0, 0, 2), OUTSIDE);
  }

  static void promise13_firstAndLastPlace() {
    HandedLabels x = Nets.settledWheel();
    due.is("BOX 0, LINK 0, CLASS 0", x.kept(0, 0, 0, 0), 16);
    due.is("its COUNT, from the END", x.kept(0, 0, 0, 1), 0);
    due.is("BOX 6, LINK 0, CLASS 0", x.kept(6, 0, 0, 1), 1);
    due.is("BOX 5, LINK 11, CLASS 3", x.kept(5, 11, 3, 0), 19);
    due.is("its COUNT", x.kept(5, 11, 3, 1), 1);
  }

  // ---- promise 14: used

  static void promise14_boxTooSmall() {
    due.is("used(-1, 0)", Nets.settledLine(2).used(-1, 0), UNKNOWN);
    due.is("the least int", Nets.settledLine(2).used(Integer.MIN_VALUE, 0), UNKNOWN);
  }

  static void promise14_boxTooLarge() {
    due.is("used(7, 0)", Nets.settledLine(2).used(7, 0), UNKNOWN);
    due.is("the greatest int", Nets.settledLine(2).used(Integer.MAX_VALUE, 0), UNKNOWN);
  }

  static void promise14_classTooSmall() {
    due.is("used(0, -1)", Nets.settledLine(2).used(0, -1), UNKNOWN);
    due.is("the least int", Nets.settledLine(2).used(0, Integer.MIN_VALUE), UNKNOWN);
  }

  static void promise14_classTooLarge() {
    due.is("used(0, 4)", Nets.settledLine(2).used(0, 4), UNKNOWN);
    due.is("the greatest int", Nets.settledLine(2).used(0, Integer.MAX_VALUE), UNKNOWN);
  }

  static void promise14_nothingKept() {
    HandedLabels x = Nets.line(2);
    x.end(0, 1);
    due.is("it has NEXT", x.next(0, 0), 1);
    due.is("nothing USED", x.used(0, 0), NONE);
  }

  static void promise14_theEndUsesNothingThoughItHasKept() {
    HandedLabels x = Nets.settledLine(2);
    due.is("KEPT", x.kept(1, 0, 0, 0), 16);
    due.is("USED", x.used(1, 0), NONE);
  }

  static void promise14_nothingWithoutNextThoughItHasKept() {
    HandedLabels x = Nets.settledLine(2);
    x.end(0, NONE);
    due.is("KEPT", x.kept(0, 0, 0, 0), 16);
    due.is("USED", x.used(0, 0), NONE);
  }

  static void promise14_keptOverAnotherLinkIsNotUsed() {
    HandedLabels x = Nets.line(3);
    x.link(0, 2, 9);
    x.end(0, 2);
    x.ticks(1);
    due.is("NEXT", x.next(0, 0), 1);
    due.is("KEPT from the END", x.kept(0, 2, 0, 0), 16);
    due.is("USED", x.used(0, 0), NONE);
    x.cost(2, 1);
    due.is("the END is NEXT now", x.used(0, 0), 16);
  }

  static void promise14_takeOffIsToldAsThree() {
    HandedLabels x = Nets.line(2);
    x.end(0, 1);
    x.mode(1, EARLY, 1);
    x.ticks(1);
    due.is("USED", x.used(0, 0), 3);
  }

  static void promise14_firstAndLastBoxAndClass() {
    HandedLabels x = Nets.line(7);
    x.end(0, 6);
    x.end(3, 0);
    x.ticks(7);
    due.is("used(0, 0): BOX 1 had CLASS 3 first", x.used(0, 0), 17);
    due.is("used(6, 3): BOX 5 had CLASS 0 first", x.used(6, 3), 17);
    due.is("used(0, 1)", x.used(0, 1), NONE);
    due.is("used(6, 2)", x.used(6, 2), NONE);
  }

  // ---- promise 15: meaning

  static void promise15_boxTooSmall() {
    due.is("meaning(-1, 0, 16)", Nets.settledLine(2).meaning(-1, 0, 16), UNKNOWN);
    due.is("the least int", Nets.settledLine(2).meaning(Integer.MIN_VALUE, 0, 16), UNKNOWN);
  }

  static void promise15_boxTooLarge() {
    due.is("meaning(7, 0, 16)", Nets.settledLine(2).meaning(7, 0, 16), UNKNOWN);
    due.is("the greatest int", Nets.settledLine(2).meaning(Integer.MAX_VALUE, 0, 16), UNKNOWN);
  }

  static void promise15_noLinksAtAll() {
    due.is("meaning(0, 0, 16)", new HandedLabels().meaning(0, 0, 16), UNKNOWN);
  }

  static void promise15_linkTooSmall() {
    due.is("meaning(0, -1, 16)", Nets.settledLine(2).meaning(0, -1, 16), UNKNOWN);
    due.is("the least int", Nets.settledLine(2).meaning(0, Integer.MIN_VALUE, 16), UNKNOWN);
  }

  static void promise15_linkTooLarge() {
    due.is("as many as there are", Nets.settledLine(2).meaning(0, 1, 16), UNKNOWN);
    due.is("12, all there", Nets.settledWheel().meaning(0, 12, 16), UNKNOWN);
    due.is("the greatest int", Nets.settledLine(2).meaning(0, Integer.MAX_VALUE, 16), UNKNOWN);
  }

  static void promise15_linkNotAtTheBox() {
    due.is("meaning(0, 1, 16)", Nets.settledLine(3).meaning(0, 1, 16), UNKNOWN);
    due.is("meaning(2, 0, 16)", Nets.settledLine(3).meaning(2, 0, 16), UNKNOWN);
    due.is("a BOX without LINKS", Nets.settledLine(3).meaning(6, 0, 16), UNKNOWN);
  }

  static void promise15_labelTooSmall() {
    due.is("-1", Nets.settledLine(2).meaning(0, 0, -1), OUTSIDE);
    due.is("the least int", Nets.settledLine(2).meaning(0, 0, Integer.MIN_VALUE), OUTSIDE);
  }

  static void promise15_labelTooLarge() {
    due.is("100", Nets.settledLine(2).meaning(0, 0, 100), OUTSIDE);
    due.is("the greatest int", Nets.settledLine(2).meaning(0, 0, Integer.MAX_VALUE), OUTSIDE);
  }

  /** With nothing HANDED and with all of it: no LABEL but 16 .. 19 means anything. */
  static void promise15_labelLeastAndGreatest() {
    for (int label : new int[] {0, 1, 3, 15, 16, 99}) {
      due.is("nothing HANDED", Nets.line(2).meaning(0, 0, label), NONE);
    }
    HandedLabels x = Nets.settledWheel();
    for (int label = 0; label <= 99; label++) {
      due.is("LABEL " + label, x.meaning(6, 0, label), label >= 16 && label <= 19 ? label - 16 : NONE);
    }
  }

  static void promise15_unknownAheadOfOutside() {
    HandedLabels x = Nets.settledLine(3);
    due.is("BOX", x.meaning(7, 0, 100), UNKNOWN);
    due.is("LINK", x.meaning(0, 2, 100), UNKNOWN);
    due.is("not at the BOX", x.meaning(0, 1, -1), UNKNOWN);
  }

  static void promise15_ofSeveralTheLeast() {
    HandedLabels x = Nets.line(2);
    x.mode(1, EARLY, 1);
    x.end(3, 1);
    x.end(2, 1);
    x.ticks(1);
    due.is("of 2, 3", x.meaning(1, 0, 3), 2);
    x.end(0, 1);
    x.ticks(1);
    due.is("of 0, 2, 3", x.meaning(1, 0, 3), 0);
  }

  /** CLASS 0 is HANDED over LINK 1 alone, CLASS 3 over LINK 0: the CLASS decides, not the LINK. */
  static void promise15_ofSeveralTheLeastWhateverTheLink() {
    HandedLabels x = Nets.line(3);
    x.mode(1, EARLY, 1);
    x.end(0, 1);
    x.end(3, 1);
    x.ticks(1);
    x.up(0, 0);
    x.up(0, 1);
    due.is("over LINK 0", x.handed(1, 0, 0, 0), NONE);
    due.is("over LINK 1", x.handed(1, 1, 0, 0), 3);
    due.is("asked over LINK 0", x.meaning(1, 0, 3), 0);
  }

  static void promise15_overAnyLinkIfNotLinkwise() {
    HandedLabels x = Nets.line(3);
    x.mode(1, ASKED, 1);
    x.end(0, 2);
    x.ticks(4);
    due.is("HANDED over LINK 0", x.handed(1, 0, 0, 0), 16);
    due.is("not over LINK 1", x.handed(1, 1, 0, 0), NONE);
    due.is("meaning over LINK 1", x.meaning(1, 1, 16), 0);
  }

  static void promise15_overThatLinkAloneIfLinkwise() {
    HandedLabels x = Nets.line(3);
    x.mode(1, ASKED, 1);
    x.mode(1, LINKWISE, 1);
    x.end(0, 2);
    x.ticks(4);
    due.is("meaning over LINK 0", x.meaning(1, 0, 16), 0);
    due.is("meaning over LINK 1", x.meaning(1, 1, 16), NONE);
  }

  static void promise15_whatTheOtherEndHandsIsNotMeant() {
    HandedLabels x = Nets.line(2);
    x.end(0, 1);
    x.ticks(1);
    due.is("1 hands it", x.meaning(1, 0, 16), 0);
    due.is("0 does not", x.meaning(0, 0, 16), NONE);
    x.end(0, 0);
    x.mode(1, ASKED, 1);
    x.ticks(2);
    due.is("0 hands it", x.meaning(0, 0, 16), 0);
    due.is("1 does not", x.meaning(1, 0, 16), NONE);
  }

  static void promise15_overALinkThatIsDown() {
    HandedLabels x = Nets.settledLine(3);
    x.up(0, 0);
    due.is("not LINKWISE: over any", x.meaning(1, 0, 16), 0);
    HandedLabels y = Nets.line(3);
    y.mode(1, LINKWISE, 1);
    y.end(0, 2);
    y.ticks(4);
    y.up(0, 0);
    due.is("LINKWISE: over that one", y.meaning(1, 0, 16), NONE);
    due.is("LINKWISE: over the other one", y.meaning(1, 1, 16), 0);
  }

  static void promise15_handsNothingAfterLinkwise() {
    HandedLabels x = Nets.settledLine(3);
    x.mode(1, LINKWISE, 1);
    due.is("meaning", x.meaning(1, 0, 16), NONE);
  }

  // ---- promise 16: settles

  static void promise16_emptySettlesAtOnce() {
    due.is("no LINKS, no ENDS", new HandedLabels().settles(), 0);
    due.is("no ENDS", Nets.wheel().settles(), 0);
    HandedLabels x = new HandedLabels();
    x.end(0, 0);
    due.is("no LINKS", x.settles(), 0);
  }

  static void promise16_zeroIfTheNextOneChangesNothing() {
    HandedLabels x = Nets.line(2);
    x.end(0, 1);
    due.is("at first", x.settles(), 2);
    x.ticks(1);
    due.is("one left", x.settles(), 1);
    x.ticks(1);
    due.is("none left", x.settles(), 0);
  }

  static void promise16_theLongestLine() {
    HandedLabels x = Nets.line(7);
    x.end(0, 6);
    due.is("a TICK for each BOX", x.settles(), 7);
    due.is("as many change something", x.ticks(20), 7);
    due.is("then none", x.settles(), 0);
  }

  static void promise16_keptAloneCounts() {
    HandedLabels x = Nets.settledLine(3);
    x.mode(2, SPARING, 1);
    due.is("the END keeps nothing any more", x.settles(), 1);
    due.is("no HANDED becomes another", x.ticks(1), 0);
    due.is("then none", x.settles(), 0);
  }

  static void promise16_handedAloneCounts() {
    HandedLabels x = Nets.settledLine(3);
    x.mode(0, SPARING, 1);
    x.mode(1, SPARING, 1);
    x.mode(2, SPARING, 1);
    x.ticks(1);
    due.is("rests", x.settles(), 0);
    x.mode(0, ASKED, 1);
    due.is("0 hands nothing any more, and nobody had KEPT it", x.settles(), 1);
  }

  static void promise16_changesNothing() {
    HandedLabels x = Nets.line(3);
    x.end(0, 2);
    x.ticks(1);
    due.is("two left", x.settles(), 2);
    due.is("HANDED", x.many(2), 1);
    due.is("KEPT", x.many(3), 1);
    due.is("TICKS so far", x.many(5), 1);
    due.is("two left, still", x.settles(), 2);
    due.is("TICKS change as much", x.ticks(2), 2);
  }

  /** The first TICK is done, the others are tried: each place is then as after the first. */
  static void promise16_changesNothingInAnyPlace() {
    HandedLabels x = Nets.wheel();
    for (int c = 0; c < 4; c++) {
      x.end(c, 5);
    }
    x.ticks(1);
    due.yes("there is something to do", x.settles() > 0);
    for (int l = 0; l < 12; l++) {
      for (int c = 0; c < 4; c++) {
        int lesser = x.ofLink(l, 0);
        int greater = x.ofLink(l, 1);
        due.is("HANDED, LINK " + l, x.handed(lesser, l, c, 0), lesser == 5 ? 16 + c : NONE);
        due.is("HANDED, LINK " + l, x.handed(greater, l, c, 0), greater == 5 ? 16 + c : NONE);
        due.is("KEPT, LINK " + l, x.kept(lesser, l, c, 0), greater == 5 ? 16 + c : NONE);
        due.is("KEPT, LINK " + l, x.kept(greater, l, c, 0), lesser == 5 ? 16 + c : NONE);
      }
    }
  }

  static void promise16_leavesWhatWasTold() {
    HandedLabels x = Nets.busy();
    int box = x.trace(1, 0);
    int label = x.trace(1, 1);
    x.settles();
    due.is("BOX", x.trace(1, 0), box);
    due.is("LABEL", x.trace(1, 1), label);
  }
}
