/** The boundary cases of promise 11: how many TICKS, and the TICK's parts (a) to (d). */
public final class TickEdgesTest {
  private static final int OUTSIDE = Nets.OUTSIDE, NONE = Nets.NONE;
  private static final int ASKED = Nets.ASKED, SPARING = Nets.SPARING;
  private static final int LINKWISE = Nets.LINKWISE, EARLY = Nets.EARLY;
  private static final int ORDERED = Nets.ORDERED, LIMIT = Nets.LIMIT;

  private static final Due due = new Due("TickEdgesTest");

  public static void main(String[] args) throws Exception {
    Cases.run(TickEdgesTest.class, due, 11);
  }

  private static void slip(HandedLabels x, String what, int box, int l, int c, int label, int count) {
    due.is(what + ", LABEL", x.handed(box, l, c, 0), label);
    due.is(what + ", COUNT", x.handed(box, l, c, 1), count);
  }

  private static void nothing(HandedLabels x, String what, int box, int l, int c) {
    slip(x, what, box, l, c, NONE, NONE);
  }

  private static void kept(HandedLabels x, String what, int box, int l, int c, int label, int count) {
    due.is(what + ", LABEL", x.kept(box, l, c, 0), label);
    due.is(what + ", COUNT", x.kept(box, l, c, 1), count);
  }

  /** The COUNT that each BOX of the longest line hands to the one after it (the last: back). */
  private static void counts(HandedLabels x, String what, int... wants) {
    for (int box = 0; box < 7; box++) {
      due.is(what + ", BOX " + box, x.handed(box, Math.min(box, 5), 0, 1), wants[box]);
    }
  }

  // ---- how many

  static void promise11_tooFew() {
    HandedLabels x = Nets.line(2);
    x.end(0, 1);
    due.is("-1", x.ticks(-1), OUTSIDE);
    due.is("the least int", x.ticks(Integer.MIN_VALUE), OUTSIDE);
    due.is("no TICK", x.many(5), 0);
    due.is("nothing HANDED", x.many(2), 0);
  }

  static void promise11_tooMany() {
    HandedLabels x = Nets.line(2);
    x.end(0, 1);
    due.is("21", x.ticks(21), OUTSIDE);
    due.is("the greatest int", x.ticks(Integer.MAX_VALUE), OUTSIDE);
    due.is("no TICK", x.many(5), 0);
    due.is("nothing HANDED", x.many(2), 0);
  }

  static void promise11_none() {
    HandedLabels x = Nets.line(2);
    x.end(0, 1);
    due.is("0", x.ticks(0), 0);
    due.is("no TICK", x.many(5), 0);
    due.is("nothing HANDED", x.many(2), 0);
  }

  static void promise11_one() {
    HandedLabels x = Nets.line(2);
    x.end(0, 1);
    due.is("1", x.ticks(1), 1);
    due.is("one TICK", x.many(5), 1);
    due.is("HANDED by the END alone", x.many(2), 1);
  }

  static void promise11_twenty() {
    HandedLabels x = Nets.line(7);
    x.end(0, 6);
    due.is("20", x.ticks(20), 7);
    due.is("twenty TICKS", x.many(5), 20);
  }

  static void promise11_onAnEmptyObject() {
    HandedLabels x = new HandedLabels();
    due.is("20", x.ticks(20), 0);
    due.is("they count as TICKS", x.many(5), 20);
  }

  static void promise11_endWithoutLinks() {
    HandedLabels x = new HandedLabels();
    x.end(0, 0);
    due.is("20", x.ticks(20), 0);
    due.is("nothing HANDED", x.many(2), 0);
  }

  // ---- something that is HANDED became another thing

  static void promise11_keptAloneDoesNotCount() {
    HandedLabels x = Nets.settledLine(3);
    x.mode(2, SPARING, 1);
    due.is("KEPT alone", x.ticks(1), 0);
    kept(x, "it did change", 2, 1, 0, NONE, NONE);
  }

  static void promise11_labelAloneCounts() {
    HandedLabels x = Nets.settledLine(2);
    x.mode(1, EARLY, 1);
    due.is("3 in place of 16", x.ticks(2), 1);
    slip(x, "the END", 1, 0, 0, 3, 0);
    slip(x, "the other one as ahead", 0, 0, 0, 16, 1);
  }

  static void promise11_countAloneCounts() {
    HandedLabels x = Nets.line(3);
    x.link(0, 2, 1);
    x.end(0, 2);
    x.ticks(5);
    slip(x, "straight", 0, 0, 0, 16, 1);
    x.cost(2, 9);
    due.is("2 in place of 1", x.ticks(2), 1);
    slip(x, "by BOX 1", 0, 0, 0, 16, 2);
  }

  static void promise11_whetherItIsAtAllCounts() {
    HandedLabels x = Nets.settledLine(2);
    x.end(0, NONE);
    due.is("nothing any more", x.ticks(3), 1);
    x.end(0, 1);
    due.is("something again", x.ticks(1), 1);
  }

  static void promise11_theLastPlaceCounts() {
    HandedLabels x = Nets.settledWheel();
    x.up(11, 0);
    x.up(11, 1);
    due.is("the last LINK alone", x.ticks(2), 1);
    x.up(0, 0);
    x.up(0, 1);
    due.is("the first LINK", x.ticks(1), 1);
  }

  /** Toggled twice: what is HANDED after the TICK is as it was long ahead, but not just ahead. */
  static void promise11_fromNothingToTheSameCounts() {
    HandedLabels x = Nets.settledLine(2);
    x.mode(1, LINKWISE, 1);
    due.is("it was nothing", x.ticks(2), 1);
    slip(x, "as long ahead", 1, 0, 0, 16, 0);
  }

  // ---- (a)

  static void promise11_a_allAtOnceByWhatIsAhead() {
    HandedLabels x = Nets.line(7);
    x.end(0, 6);
    x.end(1, 0);
    for (int tick = 1; tick <= 7; tick++) {
      x.ticks(1);
      for (int box = 0; box < 7; box++) {
        int l = Math.min(box, 5);
        due.is("to the right end, BOX " + box, x.handed(box, l, 0, 1), 6 - box < tick ? 6 - box : NONE);
        due.is("to the left end, BOX " + box, x.handed(box, l, 1, 1), box < tick ? box : NONE);
      }
    }
  }

  static void promise11_a_theEndCountsZero() {
    HandedLabels x = Nets.line(2);
    x.end(0, 1);
    x.ticks(1);
    slip(x, "the END", 1, 0, 0, 16, 0);
  }

  static void promise11_a_theEndCountsZeroThoughItHasKept() {
    HandedLabels x = Nets.settledLine(2);
    kept(x, "the END", 1, 0, 0, 16, 1);
    slip(x, "the END", 1, 0, 0, 16, 0);
  }

  static void promise11_a_theEndHandsWithTheLeastLimit() {
    HandedLabels x = Nets.line(2);
    x.setting(LIMIT, 1);
    x.end(0, 1);
    x.ticks(5);
    slip(x, "the END", 1, 0, 0, 16, 0);
    slip(x, "beside it", 0, 0, 0, 16, 1);
  }

  static void promise11_a_withoutNextNothing() {
    HandedLabels x = Nets.settledLine(2);
    x.end(0, NONE);
    kept(x, "KEPT still", 0, 0, 0, 16, 0);
    x.ticks(1);
    nothing(x, "no NEXT, though KEPT", 0, 0, 0);
    nothing(x, "no END any more", 1, 0, 0);
  }

  static void promise11_a_withoutNextNothingFreelyEither() {
    HandedLabels x = Nets.line(3);
    x.setting(ORDERED, 0);
    x.end(0, 6);
    x.ticks(5);
    due.is("no way to the END", x.many(2), 0);
    x.end(0, 2);
    x.up(1, 0);
    x.ticks(5);
    due.is("cut off", x.many(2), 0);
  }

  static void promise11_a_nothingUsedOrdered() {
    HandedLabels x = Nets.line(3);
    x.end(0, 2);
    x.ticks(1);
    nothing(x, "beside the END", 1, 0, 0);
    nothing(x, "further", 0, 0, 0);
  }

  static void promise11_a_nothingUsedFreelyCountsOne() {
    HandedLabels x = Nets.line(3);
    x.setting(ORDERED, 0);
    x.end(0, 2);
    x.ticks(1);
    slip(x, "the END", 2, 1, 0, 16, 0);
    slip(x, "beside the END", 1, 0, 0, 16, 1);
    slip(x, "further, 1 too", 0, 0, 0, 16, 1);
    x.ticks(1);
    slip(x, "further, as USED", 0, 0, 0, 16, 2);
  }

  static void promise11_a_countAsMuchAsLimit() {
    HandedLabels x = Nets.line(7);
    x.setting(LIMIT, 6);
    x.end(0, 6);
    x.ticks(20);
    slip(x, "6 is not more than 6", 0, 0, 0, 16, 6);
  }

  static void promise11_a_countMoreThanLimit() {
    HandedLabels x = Nets.line(7);
    x.setting(LIMIT, 5);
    x.end(0, 6);
    x.ticks(20);
    slip(x, "5 is not more than 5", 1, 0, 0, 16, 5);
    nothing(x, "6 is", 0, 0, 0);
    due.is("USED all the same", x.used(0, 0), 16);
  }

  static void promise11_a_leastLimit() {
    HandedLabels x = Nets.line(7);
    x.setting(LIMIT, 1);
    x.end(0, 6);
    x.ticks(20);
    counts(x, "LIMIT 1", NONE, NONE, NONE, NONE, NONE, 1, 0);
  }

  /** What comes back from behind counts up while the new END's word comes near: it is cut. */
  static void promise11_a_greatestLimitCutsTheLoop() {
    HandedLabels x = Nets.settledLine(7);
    x.setting(LIMIT, 9);
    counts(x, "ahead", 6, 5, 4, 3, 2, 1, 0);
    x.end(0, 0);
    x.ticks(1);
    counts(x, "1 goes by what 0 handed", 0, 7, 6, 5, 4, 3, 2);
    x.ticks(1);
    counts(x, "8", 0, 1, 8, 7, 6, 5, 4);
    x.ticks(1);
    counts(x, "9 is not more than 9", 0, 1, 2, 9, 8, 7, 6);
    x.ticks(1);
    counts(x, "10 is", 0, 1, 2, 3, NONE, 9, 8);
    x.ticks(1);
    counts(x, "10 again by 6, and nothing USED by 5", 0, 1, 2, 3, 4, NONE, NONE);
    x.ticks(1);
    counts(x, "nothing USED by 6", 0, 1, 2, 3, 4, 5, NONE);
    x.ticks(1);
    counts(x, "in the end", 0, 1, 2, 3, 4, 5, 6);
  }

  static void promise11_a_limitSevenAtFirstCutsTheLoop() {
    HandedLabels x = Nets.settledLine(7);
    x.end(0, 0);
    x.ticks(1);
    counts(x, "7 is not more than 7", 0, 7, 6, 5, 4, 3, 2);
    x.ticks(1);
    counts(x, "8 is", 0, 1, NONE, 7, 6, 5, 4);
  }

  static void promise11_a_cutFreelyBeginsAtOne() {
    HandedLabels x = Nets.line(4);
    x.setting(ORDERED, 0);
    x.setting(LIMIT, 1);
    x.end(0, 3);
    x.ticks(2);
    nothing(x, "1 would count 2", 1, 0, 0);
    nothing(x, "0 would count 2", 0, 0, 0);
    x.ticks(1);
    nothing(x, "1 would count 2 still", 1, 0, 0);
    slip(x, "0 has nothing USED", 0, 0, 0, 16, 1);
  }

  static void promise11_a_anotherLimitHoldsFromTheNextTickOn() {
    HandedLabels x = Nets.settledLine(4);
    x.setting(LIMIT, 2);
    slip(x, "ahead of the TICK", 0, 0, 0, 16, 3);
    x.ticks(1);
    nothing(x, "3 is more than 2", 0, 0, 0);
    slip(x, "2 is not", 1, 0, 0, 16, 2);
    x.setting(LIMIT, 3);
    x.ticks(1);
    slip(x, "3 is not more than 3", 0, 0, 0, 16, 3);
  }

  // ---- (b)

  static void promise11_b_notOverALinkThatIsDown() {
    HandedLabels x = Nets.line(3);
    x.end(0, 1);
    x.up(0, 0);
    x.ticks(3);
    nothing(x, "DOWN", 1, 0, 0);
    slip(x, "UP", 1, 1, 0, 16, 0);
  }

  static void promise11_b_notAskedHandsToItsNextToo() {
    HandedLabels x = Nets.settledLine(3);
    slip(x, "1 to its NEXT", 1, 1, 0, 16, 1);
    slip(x, "1 to whose NEXT it is", 1, 0, 0, 16, 1);
  }

  static void promise11_b_askedHandsToThoseWhoseNextItIs() {
    HandedLabels x = Nets.line(3);
    x.mode(1, ASKED, 1);
    x.end(0, 2);
    x.ticks(5);
    nothing(x, "1 to its NEXT", 1, 1, 0);
    slip(x, "1 to whose NEXT it is", 1, 0, 0, 16, 1);
    slip(x, "0 is not ASKED", 0, 0, 0, 16, 2);
  }

  static void promise11_b_askedEndHandsToThoseWhoseNextItIs() {
    HandedLabels x = Nets.line(3);
    x.link(0, 2, 9);
    x.mode(2, ASKED, 1);
    x.end(0, 2);
    x.ticks(5);
    slip(x, "to 1", 2, 1, 0, 16, 0);
    nothing(x, "0 goes by 1", 2, 2, 0);
  }

  static void promise11_b_askedByNobody() {
    HandedLabels x = Nets.line(3);
    x.mode(0, ASKED, 1);
    x.end(0, 2);
    x.ticks(5);
    nothing(x, "the last of the line", 0, 0, 0);
    due.is("it uses all the same", x.used(0, 0), 16);
  }

  /** Of two ways alike the lesser BOX is NEXT, and the other one is not asked. */
  static void promise11_b_askedOfTwoAlikeTheOneThatIsNext() {
    HandedLabels x = new HandedLabels();
    x.link(0, 2, 1);
    x.link(0, 1, 1);
    x.link(1, 3, 1);
    x.link(2, 3, 1);
    x.mode(1, ASKED, 1);
    x.mode(2, ASKED, 1);
    x.end(0, 3);
    x.ticks(5);
    slip(x, "1 is NEXT", 1, 1, 0, 16, 1);
    nothing(x, "2 is as near", 2, 0, 0);
  }

  static void promise11_b_askedForEachClassForItself() {
    HandedLabels x = Nets.line(3);
    x.mode(1, ASKED, 1);
    x.end(0, 2);
    x.end(3, 0);
    x.ticks(5);
    slip(x, "CLASS 0 to 0", 1, 0, 0, 16, 1);
    nothing(x, "CLASS 3 to 0", 1, 0, 3);
    nothing(x, "CLASS 0 to 2", 1, 1, 0);
    slip(x, "CLASS 3 to 2", 1, 1, 3, 17, 1);
  }

  static void promise11_b_askedByNextAsItIsNow() {
    HandedLabels x = Nets.line(3);
    x.link(0, 2, 9);
    x.mode(2, ASKED, 1);
    x.end(0, 2);
    x.ticks(5);
    x.cost(2, 1);
    nothing(x, "ahead of the TICK", 2, 2, 0);
    x.ticks(1);
    slip(x, "0 goes straight now", 2, 2, 0, 16, 0);
  }

  // ---- (c)

  static void promise11_c_theFirstNumberIsSixteen() {
    HandedLabels x = Nets.line(2);
    x.end(3, 1);
    x.ticks(1);
    slip(x, "CLASS 3 alone", 1, 0, 3, 16, 0);
  }

  static void promise11_c_allClassesByClasses() {
    HandedLabels x = Nets.line(2);
    for (int c = 3; c >= 0; c--) {
      x.end(c, 1);
    }
    x.ticks(1);
    for (int c = 0; c < 4; c++) {
      slip(x, "CLASS " + c, 1, 0, c, 16 + c, 0);
    }
  }

  static void promise11_c_oneLabelOverAllLinks() {
    HandedLabels x = Nets.settledWheel();
    for (int l = 0; l < 6; l++) {
      for (int c = 0; c < 4; c++) {
        slip(x, "LINK " + l, 6, l, c, 16 + c, 0);
      }
    }
  }

  static void promise11_c_earlyEndHandsThree() {
    HandedLabels x = Nets.line(3);
    x.mode(1, EARLY, 1);
    x.end(0, 1);
    x.ticks(1);
    slip(x, "over LINK 0", 1, 0, 0, 3, 0);
    slip(x, "over LINK 1", 1, 1, 0, 3, 0);
  }

  static void promise11_c_earlyButNotTheEnd() {
    HandedLabels x = Nets.line(3);
    x.mode(1, EARLY, 1);
    x.end(0, 2);
    x.ticks(3);
    slip(x, "1 is not the END", 1, 0, 0, 16, 1);
    slip(x, "the END is not EARLY", 2, 1, 0, 16, 0);
  }

  static void promise11_c_earlyAndLinkwise() {
    HandedLabels x = Nets.line(3);
    x.mode(1, EARLY, 1);
    x.mode(1, LINKWISE, 1);
    x.end(0, 1);
    x.end(1, 2);
    x.ticks(3);
    slip(x, "the END, LINK 0", 1, 0, 0, 3, 0);
    slip(x, "the END, LINK 1", 1, 1, 0, 3, 0);
    slip(x, "another CLASS", 1, 0, 1, 16, 1);
  }

  static void promise11_c_threeTakesNoNumber() {
    HandedLabels x = Nets.line(2);
    x.mode(1, EARLY, 1);
    x.end(0, 1);
    x.end(1, 1);
    x.end(2, 0);
    x.ticks(2);
    slip(x, "CLASS 0", 1, 0, 0, 3, 0);
    slip(x, "CLASS 1", 1, 0, 1, 3, 0);
    slip(x, "CLASS 2 has the first number", 1, 0, 2, 16, 1);
  }

  static void promise11_c_threeDoesNotStay() {
    HandedLabels x = Nets.line(2);
    x.mode(1, EARLY, 1);
    x.end(0, 1);
    x.ticks(1);
    x.mode(1, EARLY, 0);
    slip(x, "till the TICK", 1, 0, 0, 3, 0);
    x.ticks(1);
    slip(x, "a number", 1, 0, 0, 16, 0);
  }

  static void promise11_c_threeDoesNotStayWithAnotherEnd() {
    HandedLabels x = Nets.line(2);
    x.mode(1, EARLY, 1);
    x.end(0, 1);
    x.ticks(2);
    x.end(0, 0);
    x.ticks(1);
    slip(x, "no END any more", 1, 0, 0, 16, 2);
  }

  /** The number that an EARLY END does not hand any more is free in that very TICK. */
  static void promise11_c_threeFreesTheNumber() {
    HandedLabels x = Nets.line(2);
    x.end(0, 1);
    x.ticks(2);
    x.mode(1, EARLY, 1);
    x.end(1, 0);
    x.ticks(1);
    slip(x, "CLASS 0", 1, 0, 0, 3, 0);
    nothing(x, "CLASS 1, nothing USED yet", 1, 0, 1);
    x.ticks(1);
    slip(x, "CLASS 1", 1, 0, 1, 16, 1);
    x.mode(1, EARLY, 0);
    x.ticks(1);
    slip(x, "CLASS 0 again", 1, 0, 0, 17, 0);
    x.end(2, 1);
    x.mode(1, EARLY, 1);
    x.setting(ORDERED, 0);
    x.end(3, 0);
    x.ticks(1);
    slip(x, "17 goes to CLASS 3 at once", 1, 0, 3, 17, 1);
  }

  static void promise11_c_aLabelStaysThoughALesserOneIsFree() {
    HandedLabels x = Nets.line(2);
    x.end(0, 1);
    x.end(1, 1);
    x.ticks(1);
    x.end(0, NONE);
    x.ticks(3);
    slip(x, "CLASS 1", 1, 0, 1, 17, 0);
  }

  static void promise11_c_aLabelStaysThoughALesserClassComes() {
    HandedLabels x = Nets.line(2);
    x.end(3, 1);
    x.ticks(1);
    x.end(0, 1);
    x.ticks(1);
    slip(x, "CLASS 3", 1, 0, 3, 16, 0);
    slip(x, "CLASS 0", 1, 0, 0, 17, 0);
  }

  static void promise11_c_theLeastFreeNumber() {
    HandedLabels x = Nets.line(2);
    for (int c = 0; c < 4; c++) {
      x.end(c, 1);
    }
    x.ticks(1);
    x.end(1, NONE);
    x.end(2, NONE);
    x.ticks(1);
    x.end(2, 1);
    x.ticks(1);
    slip(x, "of 17 and 18", 1, 0, 2, 17, 0);
    x.end(1, 1);
    x.ticks(1);
    slip(x, "18 is left", 1, 0, 1, 18, 0);
    slip(x, "16 stays", 1, 0, 0, 16, 0);
    slip(x, "19 stays", 1, 0, 3, 19, 0);
  }

  static void promise11_c_notHandedAnyMoreIsFreeInThatTick() {
    HandedLabels x = Nets.line(2);
    x.end(2, 1);
    x.ticks(1);
    x.end(2, NONE);
    x.end(3, 1);
    x.ticks(1);
    slip(x, "CLASS 3", 1, 0, 3, 16, 0);
    nothing(x, "CLASS 2", 1, 0, 2);
  }

  /** A greater CLASS's number stays, so a lesser one may not take it though it comes first. */
  static void promise11_c_whatStaysIsTakenAheadOfAllGiving() {
    HandedLabels x = Nets.line(2);
    x.end(3, 1);
    x.ticks(1);
    for (int c = 0; c < 3; c++) {
      x.end(c, 1);
    }
    x.ticks(1);
    for (int c = 0; c < 3; c++) {
      slip(x, "CLASS " + c, 1, 0, c, 17 + c, 0);
    }
  }

  static void promise11_c_handedOverNoLinkTakesNoLabel() {
    HandedLabels x = Nets.line(3);
    x.mode(0, ASKED, 1);
    x.end(0, 2);
    x.end(1, 0);
    x.ticks(5);
    nothing(x, "CLASS 0, nobody asks", 0, 0, 0);
    slip(x, "CLASS 1 has the first number", 0, 0, 1, 16, 0);
  }

  static void promise11_c_handedOverNoLinkFreesItsLabel() {
    HandedLabels x = Nets.line(3);
    x.end(0, 2);
    x.ticks(5);
    slip(x, "CLASS 0", 0, 0, 0, 16, 2);
    x.mode(0, ASKED, 1);
    x.end(1, 0);
    x.ticks(1);
    nothing(x, "CLASS 0, nobody asks", 0, 0, 0);
    slip(x, "CLASS 1 has its number", 0, 0, 1, 16, 0);
  }

  /** CLASS 1 has 17; its one LINK goes, and in the same TICK it is handed over another: it stays. */
  static void promise11_c_theRowIsOneForAllLinks() {
    HandedLabels x = Nets.line(3);
    x.mode(1, ASKED, 1);
    x.end(0, 1);
    x.end(1, 2);
    x.ticks(3);
    slip(x, "to 0", 1, 0, 1, 17, 1);
    nothing(x, "not to 2", 1, 1, 1);
    x.mode(1, ASKED, 0);
    x.end(0, NONE);
    x.ticks(1);
    slip(x, "to 0, stays", 1, 0, 1, 17, 1);
    slip(x, "to 2, the same", 1, 1, 1, 17, 1);
  }

  static void promise11_c_overAnotherLinkTheLabelStays() {
    HandedLabels x = Nets.line(3);
    x.mode(1, ASKED, 1);
    x.setting(ORDERED, 0);
    x.end(0, 1);
    x.end(1, 2);
    x.ticks(3);
    slip(x, "to 0", 1, 0, 1, 17, 1);
    x.end(0, NONE);
    x.end(1, 0);
    x.ticks(1);
    nothing(x, "not to 0 any more", 1, 0, 1);
    due.is("to 2, it stays", x.handed(1, 1, 1, 0), 17);
  }

  static void promise11_c_goneWithItsLinkBeginsAnew() {
    HandedLabels x = Nets.line(2);
    x.end(0, 1);
    x.end(1, 1);
    x.ticks(1);
    x.up(0, 0);
    x.up(0, 1);
    x.end(0, NONE);
    x.ticks(1);
    slip(x, "CLASS 1, not 17", 1, 0, 1, 16, 0);
  }

  static void promise11_c_goneWithOneLinkStaysByAnother() {
    HandedLabels x = Nets.line(3);
    x.end(0, 1);
    x.end(1, 1);
    x.ticks(1);
    x.up(0, 0);
    x.up(0, 1);
    x.end(0, NONE);
    x.ticks(1);
    slip(x, "over the LINK that stayed", 1, 1, 1, 17, 0);
    slip(x, "over the one that came back", 1, 0, 1, 17, 0);
  }

  static void promise11_c_linkwiseOneRowForEachLink() {
    HandedLabels x = Nets.line(3);
    x.mode(1, LINKWISE, 1);
    x.mode(1, ASKED, 1);
    x.end(0, 2);
    x.end(3, 0);
    x.ticks(5);
    slip(x, "CLASS 0 to 0", 1, 0, 0, 16, 1);
    slip(x, "CLASS 3 to 2, the same number", 1, 1, 3, 16, 1);
  }

  /** The other way round: on the first LINK the greater CLASS. */
  static void promise11_c_linkwiseRowsDoNotTouch() {
    HandedLabels x = Nets.line(3);
    x.mode(1, LINKWISE, 1);
    x.mode(1, ASKED, 1);
    x.end(3, 2);
    x.end(0, 0);
    x.ticks(5);
    slip(x, "CLASS 3 to 0", 1, 0, 3, 16, 1);
    slip(x, "CLASS 0 to 2, the same number", 1, 1, 0, 16, 1);
  }

  static void promise11_c_linkwiseInAllPlaces() {
    HandedLabels x = Nets.wheel();
    for (int box = 0; box < 7; box++) {
      x.mode(box, LINKWISE, 1);
    }
    for (int c = 0; c < 4; c++) {
      x.end(c, 6);
    }
    x.ticks(3);
    for (int l = 0; l < 12; l++) {
      for (int c = 0; c < 4; c++) {
        due.is("LINK " + l + ", lesser BOX", x.handed(x.ofLink(l, 0), l, c, 0), 16 + c);
        due.is("LINK " + l + ", greater BOX", x.handed(x.ofLink(l, 1), l, c, 0), 16 + c);
      }
    }
  }

  static void promise11_c_linkwiseStaysOnItsLinkAlone() {
    HandedLabels x = Nets.line(2);
    x.mode(1, LINKWISE, 1);
    x.end(0, 1);
    x.end(1, 1);
    x.ticks(1);
    x.end(0, NONE);
    x.link(1, 2, 1);
    x.ticks(1);
    slip(x, "on the old LINK", 1, 0, 1, 17, 0);
    slip(x, "on the new LINK", 1, 1, 1, 16, 0);
  }

  static void promise11_c_linkwiseFreeOnItsLinkAlone() {
    HandedLabels x = Nets.line(3);
    x.mode(1, LINKWISE, 1);
    x.end(0, 1);
    x.ticks(1);
    x.up(1, 0);
    x.up(1, 1);
    x.end(0, NONE);
    x.end(1, 1);
    x.end(2, 1);
    x.ticks(1);
    slip(x, "LINK 0", 1, 0, 1, 16, 0);
    slip(x, "LINK 1", 1, 1, 1, 16, 0);
    slip(x, "LINK 1, the second", 1, 1, 2, 17, 0);
  }

  static void promise11_c_linkwiseHandedNotOverThatLinkTakesNoLabelThere() {
    HandedLabels x = Nets.line(3);
    x.mode(1, LINKWISE, 1);
    x.mode(1, ASKED, 1);
    x.end(0, 2);
    x.end(1, 1);
    x.ticks(5);
    slip(x, "CLASS 1 to 2, where CLASS 0 is not", 1, 1, 1, 16, 0);
    nothing(x, "CLASS 0 to 2", 1, 1, 0);
  }

  static void promise11_c_theGreatestNumberIsNineteen() {
    HandedLabels x = Nets.settledWheel();
    for (int k = 0; k < 8; k++) {
      x.end(k % 4, NONE);
      x.ticks(1);
      x.end(k % 4, (k + 3) % 7);
      x.ticks(4);
      due.yes("19 at most", x.many(6) <= 19);
    }
  }

  // ---- (d)

  static void promise11_d_notSparingKeepsAll() {
    HandedLabels x = Nets.settledWheel();
    due.is("all that is HANDED", x.many(3), 96);
  }

  static void promise11_d_keepsWhatIsHandedNow() {
    HandedLabels x = Nets.line(2);
    x.end(0, 1);
    x.ticks(1);
    kept(x, "in the same TICK", 0, 0, 0, 16, 0);
    x.mode(1, EARLY, 1);
    x.ticks(1);
    kept(x, "the new LABEL", 0, 0, 0, 3, 0);
  }

  static void promise11_d_sparingKeepsFromNextAlone() {
    HandedLabels x = Nets.wheel();
    for (int box = 0; box < 7; box++) {
      x.mode(box, SPARING, 1);
    }
    for (int c = 0; c < 4; c++) {
      x.end(c, 6);
    }
    x.ticks(5);
    due.is("six BOXES, four CLASSES", x.many(3), 24);
    kept(x, "from NEXT", 0, 0, 0, 16, 0);
    kept(x, "from another", 0, 6, 0, NONE, NONE);
  }

  static void promise11_d_sparingEndKeepsNothing() {
    HandedLabels x = Nets.line(2);
    x.mode(1, SPARING, 1);
    x.end(0, 1);
    x.ticks(5);
    slip(x, "HANDED to it", 0, 0, 0, 16, 1);
    kept(x, "KEPT", 1, 0, 0, NONE, NONE);
  }

  static void promise11_d_sparingForEachClassForItself() {
    HandedLabels x = Nets.line(3);
    x.mode(1, SPARING, 1);
    x.end(0, 2);
    x.end(3, 0);
    x.ticks(5);
    kept(x, "CLASS 0 from 2", 1, 1, 0, 16, 0);
    kept(x, "CLASS 0 from 0", 1, 0, 0, NONE, NONE);
    kept(x, "CLASS 3 from 0", 1, 0, 3, 16, 0);
    kept(x, "CLASS 3 from 2", 1, 1, 3, NONE, NONE);
  }

  static void promise11_d_sparingHoldsFromTheNextTickOn() {
    HandedLabels x = Nets.settledLine(3);
    x.mode(1, SPARING, 1);
    kept(x, "ahead of the TICK", 1, 0, 0, 16, 2);
    x.ticks(1);
    kept(x, "after it", 1, 0, 0, NONE, NONE);
    x.mode(1, SPARING, 0);
    x.ticks(1);
    kept(x, "and back", 1, 0, 0, 16, 2);
  }

  static void promise11_d_sparingLosesWhatComesFromAnOldNext() {
    HandedLabels x = Nets.line(3);
    x.link(0, 2, 3);
    x.mode(0, SPARING, 1);
    x.end(0, 2);
    x.ticks(5);
    kept(x, "from 1", 0, 0, 0, 16, 1);
    x.cost(2, 1);
    due.is("nothing USED yet", x.used(0, 0), NONE);
    x.ticks(1);
    kept(x, "from 1 no more", 0, 0, 0, NONE, NONE);
    kept(x, "from 2", 0, 2, 0, 16, 0);
    nothing(x, "it had nothing USED ahead", 0, 0, 0);
  }

  static void promise11_d_nothingElseIsKeptAnyMore() {
    HandedLabels x = Nets.settledLine(3);
    kept(x, "ahead", 2, 1, 0, 16, 1);
    x.mode(1, ASKED, 1);
    x.ticks(1);
    kept(x, "it is not HANDED any more", 2, 1, 0, NONE, NONE);
  }

  static void promise11_d_notOverALinkThatIsDown() {
    HandedLabels x = Nets.settledLine(3);
    x.up(0, 0);
    x.ticks(3);
    kept(x, "the lesser BOX", 0, 0, 0, NONE, NONE);
    kept(x, "the greater BOX", 1, 0, 0, NONE, NONE);
    kept(x, "over another LINK", 1, 1, 0, 16, 0);
  }
}
