import java.lang.reflect.Method;
import java.util.Set;
import java.util.TreeMap;
import java.util.TreeSet;

/**
 * Runs the tests of a class, one boundary case each: every method that is named after its promise
 * ("promise02_costZero"), so that none is forgotten in a list of calls.
 */
final class Cases {
  private Cases() {}

  /** Runs all of them, and fails if one of the promises told has none. */
  static void run(Class<?> tests, Due due, int... told) throws Exception {
    TreeMap<String, Method> byName = new TreeMap<>();
    Set<Integer> promises = new TreeSet<>();
    for (Method m : tests.getDeclaredMethods()) {
      if (m.getName().matches("promise\\d\\d_.*")) {
        byName.put(m.getName(), m);
        promises.add(Integer.parseInt(m.getName().substring(7, 9)));
      }
    }
    for (Method m : byName.values()) {
      int ahead = due.asked();
      due.begin(m.getName());
      m.invoke(null);
      due.yes("it asks something", due.asked() > ahead);
    }
    due.begin("all");
    for (int promise : told) {
      due.yes("promise " + promise + " has a test", promises.contains(promise));
    }
    due.finish();
  }
}
