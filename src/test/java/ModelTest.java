import java.util.Random;

/** Long runs of calls by fixed seeds, each answer held against the model of the document. */
public final class ModelTest {
  private static final int RUNS = 600;
  private static final int CALLS = 512;

  private final Due due = new Due("ModelTest");
  private Random random;
  private HandedLabels real;
  private Model model;
  private String run;

  public static void main(String[] args) {
    ModelTest test = new ModelTest();
    for (int seed = 1; seed <= RUNS && !test.due.anyWrong(); seed++) {
      test.oneRun(seed);
    }
    test.due.finish();
  }

  private void oneRun(int seed) {
    random = new Random(seed);
    real = new HandedLabels();
    model = new Model();
    run = "run " + seed;
    int boxes = 3 + random.nextInt(5);
    int costs = 1 + random.nextInt(9);
    for (int i = 0; i < 4 + random.nextInt(14); i++) {
      int a = random.nextInt(boxes), b = random.nextInt(boxes), v = 1 + random.nextInt(costs);
      due.is(run + ": link(" + a + ", " + b + ", " + v + ")", real.link(a, b, v), model.link(a, b, v));
    }
    for (int c = 0; c < 4; c++) {
      int b = random.nextInt(5) == 0 ? -9 : random.nextInt(boxes);
      due.is(run + ": end(" + c + ", " + b + ")", real.end(c, b), model.end(c, b));
    }
    for (int call = 22; call < CALLS && !due.anyWrong(); call++) {
      oneCall(call);
    }
  }

  /** A number from low to high, and now and then one beside them. */
  private int about(int low, int high) {
    if (random.nextInt(40) == 0) {
      int[] beside = {low - 1, high + 1, Integer.MIN_VALUE, Integer.MAX_VALUE, -9};
      return beside[random.nextInt(beside.length)];
    }
    return low + random.nextInt(high - low + 1);
  }

  private int box() {
    return about(0, 6);
  }

  private int aLink() {
    return about(0, Math.max(0, real.many(0) - 1));
  }

  private int aBoxAt(int l) {
    int at = real.ofLink(l, random.nextInt(2));
    return at < 0 || random.nextInt(20) == 0 ? box() : at;
  }

  private int cls() {
    return about(0, 3);
  }

  private void oneCall(int n) {
    int what = random.nextInt(100);
    if (what < 28) {
      change(n);
    } else if (what < 40) {
      int k = random.nextInt(5) == 0 ? about(0, 20) : 1;
      is(n, "ticks", real.ticks(k), model.ticks(k), k);
    } else if (what < 74) {
      askLabels(n);
    } else {
      askLetters(n);
    }
  }

  private void change(int n) {
    int l = aLink(), b = box(), c = cls();
    switch (random.nextInt(8)) {
      case 0: {
        int a = box(), v = about(1, 9);
        is(n, "link", real.link(a, b, v), model.link(a, b, v), a, b, v);
        break;
      }
      case 1: {
        int v = about(1, 9);
        is(n, "cost", real.cost(l, v), model.cost(l, v), l, v);
        break;
      }
      case 2:
      case 3: {
        int v = random.nextInt(3) == 0 ? about(0, 1) : 1;
        is(n, "up", real.up(l, v), model.up(l, v), l, v);
        break;
      }
      case 4: {
        int to = random.nextInt(6) == 0 ? -9 : b;
        is(n, "end", real.end(c, to), model.end(c, to), c, to);
        break;
      }
      case 5: {
        int which = about(0, 1), v = which == 0 ? about(0, 1) : about(1, 9);
        is(n, "setting", real.setting(which, v), model.setting(which, v), which, v);
        break;
      }
      default: {
        int which = about(0, 3), v = about(0, 1);
        is(n, "mode", real.mode(b, which, v), model.mode(b, which, v), b, which, v);
      }
    }
  }

  private void askLabels(int n) {
    int l = aLink(), b = aBoxAt(l), c = cls(), what = about(0, 1);
    switch (random.nextInt(8)) {
      case 0:
        is(n, "ofLink", real.ofLink(l, what + 1), model.ofLink(l, what + 1), l, what + 1);
        break;
      case 1:
        is(n, "next", real.next(b, c), model.next(b, c), b, c);
        break;
      case 2:
        is(n, "far", real.far(b, c), model.far(b, c), b, c);
        break;
      case 3:
        is(n, "handed", real.handed(b, l, c, what), model.handed(b, l, c, what), b, l, c, what);
        break;
      case 4:
        is(n, "kept", real.kept(b, l, c, what), model.kept(b, l, c, what), b, l, c, what);
        break;
      case 5:
        is(n, "used", real.used(b, c), model.used(b, c), b, c);
        break;
      case 6: {
        int label = random.nextInt(4) == 0 ? 3 : random.nextInt(4) == 0 ? about(0, 99) : 16 + random.nextInt(4);
        is(n, "meaning", real.meaning(b, l, label), model.meaning(b, l, label), b, l, label);
        break;
      }
      default:
        is(n, "settles", real.settles(), model.settles());
    }
  }

  private void askLetters(int n) {
    int b = box(), c = cls();
    switch (random.nextInt(6)) {
      case 0:
        is(n, "letter", real.letter(b, c), model.letter(b, c), b, c);
        break;
      case 1:
      case 2: {
        int k = random.nextInt(3) == 0 ? about(0, 14) : random.nextInt(4), what = about(0, 1);
        is(n, "trace", real.trace(k, what), model.trace(k, what), k, what);
        break;
      }
      case 3: {
        int how = about(0, 2);
        is(n, "served", real.served(c, how), model.served(c, how), c, how);
        break;
      }
      case 4:
        is(n, "merged", real.merged(b, c), model.merged(b, c), b, c);
        break;
      default: {
        int what = about(0, 6);
        is(n, "many", real.many(what), model.many(what), what);
      }
    }
  }

  private void is(int n, String call, int got, int want, int... args) {
    due.is(run + ", call " + n + ": " + call + java.util.Arrays.toString(args), got, want);
  }
}
