/** Counts the answers that are not the ones that are due. */
final class Due {
  private final String name;
  private String test = "";
  private int wrong = 0;
  private int asked = 0;

  Due(String name) {
    this.name = name;
  }

  /** What is asked from now on belongs to this test. */
  void begin(String ofTest) {
    test = ofTest + ": ";
  }

  void is(String call, long got, long want) {
    asked++;
    if (got != want) {
      wrong++;
      System.out.println(name + ": " + test + call + " answered " + got + ", due is " + want);
    }
  }

  void yes(String what, boolean holds) {
    asked++;
    if (!holds) {
      wrong++;
      System.out.println(name + ": " + test + "does not hold: " + what);
    }
  }

  int asked() {
    return asked;
  }

  boolean anyWrong() {
    return wrong != 0;
  }

  void finish() {
    System.out.println(name + ": " + asked + " asked, " + wrong + " wrong");
    if (wrong != 0) {
      System.exit(1);
    }
  }
}
