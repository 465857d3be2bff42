/** Counts the answers that are not the ones that are due. */
final class Due {
  private final String name;
  private int wrong = 0;
  private int asked = 0;

  Due(String name) {
    this.name = name;
  }

  void is(String call, long got, long want) {
    asked++;
    if (got != want) {
      wrong++;
      System.out.println(name + ": " + call + " answered " + got + ", due is " + want);
    }
  }

  void yes(String what, boolean holds) {
    asked++;
    if (!holds) {
      wrong++;
      System.out.println(name + ": does not hold: " + what);
    }
  }

  boolean anyWrong() {
    return wrong != 0;
  }

  void finish() {
    System.out.println(name + ": " + asked + " asked, " + wrong + " wrong");
    if (wrong != 0) {
      System.exit(1);
    }
  }
}
