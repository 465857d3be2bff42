/** "What it is": an object is used for at most 512 calls, so the 512th is still answered. */
public final class LongUseTest {
  private static final int CALLS = 512;

  private static final Due due = new Due("LongUseTest");

  public static void main(String[] args) throws Exception {
    Cases.run(LongUseTest.class, due, 2, 4, 11, 17, 21);
  }

  static void promise02_theLastCallIsALink() {
    HandedLabels x = new HandedLabels();
    for (int call = 1; call < CALLS; call++) {
      x.link(3, 3, 1);
    }
    due.is("the first LINK", x.link(0, 1, 1), 0);
  }

  /** The numbers that get free are given again and again: none is greater for it. */
  static void promise04_aLinkThatGoesAndComes() {
    HandedLabels x = Nets.settledLine(2);
    for (int call = 4; call < CALLS - 4; call += 4) {
      due.is("UP ahead", x.up(0, 0), 1);
      due.is("DOWN ahead", x.up(0, 1), 0);
      due.is("a TICK for each BOX", x.ticks(2), 2);
      due.is("the first number again", x.many(6), 16);
    }
    due.is("in the end", x.letter(0, 0), 0);
  }

  static void promise11_theLastCallIsTicks() {
    HandedLabels x = Nets.line(2);
    x.end(0, 1);
    for (int call = 3; call < CALLS; call++) {
      x.ticks(0);
    }
    due.is("all is still to do", x.ticks(20), 2);
  }

  static void promise17_theLastCallIsALetter() {
    HandedLabels x = Nets.settledLine(3);
    for (int call = 5; call < CALLS; call++) {
      due.is("each one", x.letter(call % 3, 0), 0);
    }
    due.is("the last one", x.letter(0, 0), 0);
  }

  static void promise21_theMostTicks() {
    HandedLabels x = new HandedLabels();
    for (int call = 1; call < CALLS; call++) {
      x.ticks(20);
    }
    due.is("TICKS so far", x.many(5), 20 * (CALLS - 1));
  }
}
