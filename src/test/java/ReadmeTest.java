import java.lang.reflect.Method;
import java.nio.file.Files;
import java.nio.file.Path;
import java.util.HashMap;
import java.util.Map;
import java.util.regex.Matcher;
import java.util.regex.Pattern;

/** README.md tells what the class answers: each call in its examples, and a row for each method. */
public final class ReadmeTest {
  private static final Pattern CALL =
      Pattern.compile("x\\.(\\w+)\\(([-\\d, ]*)\\);\\s*// (-?\\d+)\\b.*");

  private static final Due due = new Due("ReadmeTest");

  public static void main(String[] args) throws Exception {
    String readme = Files.readString(Path.of("README.md"));
    examples(readme);
    everyMethodHasARow(readme);
    due.finish();
  }

  /** The examples are one run of calls, from the line that makes the object on. */
  private static void examples(String readme) throws Exception {
    Map<String, Method> face = face();
    HandedLabels x = null;
    int told = 0;
    for (String line : readme.split("\n")) {
      Matcher call = CALL.matcher(line);
      if (line.equals("HandedLabels x = new HandedLabels();")) {
        x = new HandedLabels();
      } else if (call.matches()) {
        told++;
        Method m = face.get(call.group(1));
        due.is(line, (int) m.invoke(x, numbers(call.group(2))), Integer.parseInt(call.group(3)));
      } else {
        due.yes("it tells what is answered: " + line, !line.startsWith("x."));
      }
    }
    due.yes("there are examples", told > 20);
  }

  private static void everyMethodHasARow(String readme) {
    for (Method m : face().values()) {
      due.yes("a row for " + m.getName(), readme.contains("| `" + m.getName() + "("));
    }
  }

  private static Map<String, Method> face() {
    Map<String, Method> face = new HashMap<>();
    for (Method m : HandedLabels.class.getMethods()) {
      if (m.getDeclaringClass() == HandedLabels.class) {
        face.put(m.getName(), m);
      }
    }
    return face;
  }

  private static Object[] numbers(String list) {
    if (list.isBlank()) {
      return new Object[0];
    }
    String[] texts = list.split(", *");
    Object[] numbers = new Object[texts.length];
    for (int i = 0; i < texts.length; i++) {
      numbers[i] = Integer.parseInt(texts[i]);
    }
    return numbers;
  }
}
