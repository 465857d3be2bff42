import java.util.ArrayList;
import java.util.List;
import java.util.function.Supplier;
import java.util.function.ToIntFunction;

/**
 * Terms: refusals change nothing. Each refused call is made on an object, and all that can be asked
 * of it then is held against a twin that was never refused; so is each call that only asks.
 */
public final class RefusalsTest {
  private static final int UNKNOWN = Nets.UNKNOWN, OUTSIDE = Nets.OUTSIDE, STATE = Nets.STATE;
  private static final int FULL = Nets.FULL, NONE = Nets.NONE;
  private static final int[] NO_BOX = {-1, 7, NONE, Integer.MIN_VALUE, Integer.MAX_VALUE};
  private static final int[] NO_CLASS = {-1, 4, NONE, Integer.MIN_VALUE, Integer.MAX_VALUE};
  /** There are six LINKS in busy(). */
  private static final int[] NO_LINK = {-1, 6, 12, NONE, Integer.MIN_VALUE, Integer.MAX_VALUE};
  private static final int[] NO_COST = {0, 10, -1, NONE, Integer.MIN_VALUE, Integer.MAX_VALUE};
  private static final int[] NO_0_1 = {-1, 2, NONE, Integer.MIN_VALUE, Integer.MAX_VALUE};

  private static final Due due = new Due("RefusalsTest");

  public static void main(String[] args) throws Exception {
    Cases.run(RefusalsTest.class, due, 2, 3, 4, 5, 6, 7, 8, 9, 10, 11, 12, 13, 14, 15, 16, 17, 18,
        19, 20, 21);
  }

  private static void refused(String call, int want, ToIntFunction<HandedLabels> made) {
    due.is(call, made.applyAsInt(Nets.busy()), want);
    changesNothing(call, Nets::busy, made);
  }

  private static void changesNothing(
      String call, Supplier<HandedLabels> net, ToIntFunction<HandedLabels> made) {
    List<Integer> untouched = all(net);
    List<Integer> after = all(() -> {
      HandedLabels x = net.get();
      made.applyAsInt(x);
      return x;
    });
    due.yes(call + " changes nothing", untouched.equals(after));
  }

  /** All that can be asked, each part of an object of its own, so that none has too many calls. */
  private static List<Integer> all(Supplier<HandedLabels> net) {
    List<Integer> told = new ArrayList<>();
    askNet(net.get(), told);
    askPlaces(net.get(), told);
    askLetters(net.get(), told);
    askSettings(net.get(), told);
    HandedLabels later = net.get();
    told.add(later.ticks(2));
    askPlaces(later, told);
    return told;
  }

  private static void askNet(HandedLabels x, List<Integer> told) {
    for (int what = 0; what <= 6; what++) {
      told.add(x.many(what));
    }
    for (int l = 0; l < 12; l++) {
      for (int what = 0; what <= 3; what++) {
        told.add(x.ofLink(l, what));
      }
    }
    for (int of = 0; of < 28; of++) {
      told.add(x.far(of / 4, of % 4));
      told.add(x.next(of / 4, of % 4));
      told.add(x.used(of / 4, of % 4));
      told.add(x.merged(of / 4, of % 4));
    }
    told.add(x.settles());
  }

  private static void askPlaces(HandedLabels x, List<Integer> told) {
    for (int l = 0; l < 12; l++) {
      for (int side = 0; side < 2; side++) {
        int box = x.ofLink(l, side);
        for (int c = 0; c < 4; c++) {
          told.add(x.handed(box, l, c, 0));
          told.add(x.handed(box, l, c, 1));
          told.add(x.kept(box, l, c, 0));
          told.add(x.kept(box, l, c, 1));
        }
      }
    }
  }

  private static void askLetters(HandedLabels x, List<Integer> told) {
    for (int k = 0; k <= 14; k++) {
      told.add(x.trace(k, 0));
      told.add(x.trace(k, 1));
    }
    for (int c = 0; c < 4; c++) {
      for (int how = 0; how < 3; how++) {
        told.add(x.served(c, how));
      }
    }
    for (int of = 0; of < 28; of++) {
      told.add(x.letter(of / 4, of % 4));
    }
  }

  private static void askSettings(HandedLabels x, List<Integer> told) {
    for (int of = 0; of < 28; of++) {
      told.add(x.mode(of / 4, of % 4, 0));
    }
    told.add(x.setting(Nets.ORDERED, 1));
    told.add(x.setting(Nets.LIMIT, 1));
    for (int c = 0; c < 4; c++) {
      told.add(x.end(c, NONE));
    }
    told.add(x.many(5));
  }

  // ---- refused

  static void promise02_refusedChangesNothing() {
    for (int out : NO_BOX) {
      refused("first BOX", UNKNOWN, x -> x.link(out, 5, 1));
      refused("second BOX", UNKNOWN, x -> x.link(5, out, 1));
    }
    for (int out : NO_COST) {
      refused("COST", OUTSIDE, x -> x.link(0, 5, out));
    }
    refused("the two are one", STATE, x -> x.link(5, 5, 1));
    refused("they have a LINK", STATE, x -> x.link(1, 0, 3));
    refused("they have a LINK that is DOWN", STATE, x -> x.link(0, 4, 3));
    due.is("full", Nets.settledWheel().link(0, 2, 1), FULL);
    changesNothing("full", Nets::settledWheel, x -> x.link(0, 2, 1));
  }

  static void promise03_refusedChangesNothing() {
    for (int out : NO_LINK) {
      refused("LINK", UNKNOWN, x -> x.cost(out, 5));
    }
    for (int out : NO_COST) {
      refused("COST", OUTSIDE, x -> x.cost(0, out));
    }
  }

  static void promise04_refusedChangesNothing() {
    for (int out : NO_LINK) {
      refused("LINK, DOWN", UNKNOWN, x -> x.up(out, 0));
      refused("LINK, UP", UNKNOWN, x -> x.up(out, 1));
    }
    for (int out : NO_0_1) {
      refused("of an UP one", OUTSIDE, x -> x.up(0, out));
      refused("of a DOWN one", OUTSIDE, x -> x.up(5, out));
    }
  }

  static void promise05_refusedChangesNothing() {
    for (int out : NO_CLASS) {
      refused("CLASS", UNKNOWN, x -> x.end(out, 3));
      refused("CLASS, to none", UNKNOWN, x -> x.end(out, NONE));
    }
    for (int out : new int[] {-1, 7, -8, -10, Integer.MIN_VALUE, Integer.MAX_VALUE}) {
      refused("BOX", OUTSIDE, x -> x.end(0, out));
    }
  }

  static void promise06_refusedChangesNothing() {
    for (int out : NO_LINK) {
      refused("LINK", UNKNOWN, x -> x.ofLink(out, 0));
    }
    for (int out : new int[] {-1, 4, NONE, Integer.MIN_VALUE, Integer.MAX_VALUE}) {
      refused("what", OUTSIDE, x -> x.ofLink(0, out));
    }
  }

  static void promise07_refusedChangesNothing() {
    for (int out : NO_BOX) {
      refused("BOX", UNKNOWN, x -> x.next(out, 0));
    }
    for (int out : NO_CLASS) {
      refused("CLASS", UNKNOWN, x -> x.next(0, out));
    }
  }

  static void promise08_refusedChangesNothing() {
    for (int out : NO_BOX) {
      refused("BOX", UNKNOWN, x -> x.far(out, 0));
    }
    for (int out : NO_CLASS) {
      refused("CLASS", UNKNOWN, x -> x.far(0, out));
    }
  }

  static void promise09_refusedChangesNothing() {
    for (int out : NO_BOX) {
      refused("BOX", UNKNOWN, x -> x.mode(out, Nets.LINKWISE, 1));
    }
    for (int out : new int[] {-1, 4, NONE, Integer.MIN_VALUE, Integer.MAX_VALUE}) {
      refused("which", OUTSIDE, x -> x.mode(1, out, 1));
    }
    for (int out : NO_0_1) {
      refused("LINKWISE from 1", OUTSIDE, x -> x.mode(1, Nets.LINKWISE, out));
      refused("LINKWISE from 0", OUTSIDE, x -> x.mode(2, Nets.LINKWISE, out));
      refused("ASKED", OUTSIDE, x -> x.mode(3, Nets.ASKED, out));
      refused("SPARING", OUTSIDE, x -> x.mode(2, Nets.SPARING, out));
      refused("EARLY", OUTSIDE, x -> x.mode(4, Nets.EARLY, out));
    }
  }

  static void promise10_refusedChangesNothing() {
    for (int out : new int[] {-1, 2, NONE, Integer.MIN_VALUE, Integer.MAX_VALUE}) {
      refused("which", OUTSIDE, x -> x.setting(out, 1));
    }
    for (int out : NO_0_1) {
      refused("ORDERED", OUTSIDE, x -> x.setting(Nets.ORDERED, out));
    }
    for (int out : NO_COST) {
      refused("LIMIT", OUTSIDE, x -> x.setting(Nets.LIMIT, out));
    }
  }

  static void promise11_refusedChangesNothing() {
    for (int out : new int[] {-1, 21, NONE, Integer.MIN_VALUE, Integer.MAX_VALUE}) {
      refused("n", OUTSIDE, x -> x.ticks(out));
    }
  }

  static void promise12_refusedChangesNothing() {
    for (int out : NO_BOX) {
      refused("BOX", UNKNOWN, x -> x.handed(out, 0, 0, 0));
    }
    for (int out : NO_LINK) {
      refused("LINK", UNKNOWN, x -> x.handed(0, out, 0, 0));
    }
    for (int out : NO_CLASS) {
      refused("CLASS", UNKNOWN, x -> x.handed(0, 0, out, 0));
    }
    for (int out : NO_0_1) {
      refused("what", OUTSIDE, x -> x.handed(0, 0, 0, out));
    }
    refused("not at the BOX", UNKNOWN, x -> x.handed(0, 1, 0, 0));
  }

  static void promise13_refusedChangesNothing() {
    for (int out : NO_BOX) {
      refused("BOX", UNKNOWN, x -> x.kept(out, 0, 0, 0));
    }
    for (int out : NO_LINK) {
      refused("LINK", UNKNOWN, x -> x.kept(0, out, 0, 0));
    }
    for (int out : NO_CLASS) {
      refused("CLASS", UNKNOWN, x -> x.kept(0, 0, out, 0));
    }
    for (int out : NO_0_1) {
      refused("what", OUTSIDE, x -> x.kept(0, 0, 0, out));
    }
    refused("not at the BOX", UNKNOWN, x -> x.kept(0, 1, 0, 0));
  }

  static void promise14_refusedChangesNothing() {
    for (int out : NO_BOX) {
      refused("BOX", UNKNOWN, x -> x.used(out, 0));
    }
    for (int out : NO_CLASS) {
      refused("CLASS", UNKNOWN, x -> x.used(0, out));
    }
  }

  static void promise15_refusedChangesNothing() {
    for (int out : NO_BOX) {
      refused("BOX", UNKNOWN, x -> x.meaning(out, 0, 16));
    }
    for (int out : NO_LINK) {
      refused("LINK", UNKNOWN, x -> x.meaning(0, out, 16));
    }
    for (int out : new int[] {-1, 100, NONE, Integer.MIN_VALUE, Integer.MAX_VALUE}) {
      refused("LABEL", OUTSIDE, x -> x.meaning(0, 0, out));
    }
    refused("not at the BOX", UNKNOWN, x -> x.meaning(0, 1, 16));
  }

  static void promise17_refusedChangesNothing() {
    for (int out : NO_BOX) {
      refused("BOX", UNKNOWN, x -> x.letter(out, 0));
    }
    for (int out : NO_CLASS) {
      refused("CLASS", UNKNOWN, x -> x.letter(0, out));
    }
  }

  static void promise18_refusedChangesNothing() {
    for (int out : new int[] {-1, 15, NONE, Integer.MIN_VALUE, Integer.MAX_VALUE}) {
      refused("k", OUTSIDE, x -> x.trace(out, 0));
    }
    for (int out : NO_0_1) {
      refused("what", OUTSIDE, x -> x.trace(0, out));
    }
  }

  static void promise19_refusedChangesNothing() {
    for (int out : NO_CLASS) {
      refused("CLASS", UNKNOWN, x -> x.served(out, 0));
    }
    for (int out : new int[] {-1, 3, NONE, Integer.MIN_VALUE, Integer.MAX_VALUE}) {
      refused("how", OUTSIDE, x -> x.served(0, out));
    }
  }

  static void promise20_refusedChangesNothing() {
    for (int out : NO_BOX) {
      refused("BOX", UNKNOWN, x -> x.merged(out, 0));
    }
    for (int out : NO_CLASS) {
      refused("CLASS", UNKNOWN, x -> x.merged(0, out));
    }
  }

  static void promise21_refusedChangesNothing() {
    for (int out : new int[] {-1, 7, NONE, Integer.MIN_VALUE, Integer.MAX_VALUE}) {
      refused("what", OUTSIDE, x -> x.many(out));
    }
  }

  // ---- only asked

  static void promise06_askingChangesNothing() {
    changesNothing("ofLink", Nets::busy, x -> x.ofLink(5, 3));
  }

  static void promise07_askingChangesNothing() {
    changesNothing("next", Nets::busy, x -> x.next(0, 0));
  }

  static void promise08_askingChangesNothing() {
    changesNothing("far", Nets::busy, x -> x.far(0, 0));
  }

  static void promise11_noTicksChangeNothing() {
    changesNothing("ticks(0)", Nets::busy, x -> x.ticks(0));
  }

  static void promise12_askingChangesNothing() {
    changesNothing("handed", Nets::busy, x -> x.handed(0, 0, 0, 0));
  }

  static void promise13_askingChangesNothing() {
    changesNothing("kept", Nets::busy, x -> x.kept(0, 0, 0, 0));
  }

  static void promise14_askingChangesNothing() {
    changesNothing("used", Nets::busy, x -> x.used(0, 0));
  }

  static void promise15_askingChangesNothing() {
    changesNothing("meaning", Nets::busy, x -> x.meaning(1, 0, 16));
  }

  static void promise16_askingChangesNothing() {
    due.yes("there is something to do", Nets.busy().settles() > 0);
    changesNothing("settles", Nets::busy, x -> x.settles());
  }

  static void promise18_askingChangesNothing() {
    changesNothing("trace", Nets::busy, x -> x.trace(1, 1));
  }

  static void promise19_askingChangesNothing() {
    for (int how = 0; how < 3; how++) {
      int h = how;
      changesNothing("served", Nets::busy, x -> x.served(1, h));
    }
  }

  static void promise20_askingChangesNothing() {
    changesNothing("merged", Nets::busy, x -> x.merged(1, 0));
  }

  static void promise21_askingChangesNothing() {
    for (int what = 0; what <= 6; what++) {
      int w = what;
      changesNothing("many", Nets::busy, x -> x.many(w));
    }
  }
}
