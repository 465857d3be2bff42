import java.lang.reflect.Constructor;
import java.lang.reflect.Field;
import java.lang.reflect.Method;
import java.lang.reflect.Modifier;
import java.nio.file.Files;
import java.nio.file.Path;
import java.util.ArrayDeque;
import java.util.Deque;
import java.util.List;
import java.util.Set;
import java.util.TreeSet;
import java.util.regex.Matcher;
import java.util.regex.Pattern;

/** The rules of LANGUAGE.md that can be seen from outside: the face, and words that are ruled out. */
public final class LanguageTest {
  private static final Set<String> FACE = Set.of(
      "link(int,int,int)", "cost(int,int)", "up(int,int)", "end(int,int)", "ofLink(int,int)",
      "next(int,int)", "far(int,int)", "mode(int,int,int)", "setting(int,int)", "ticks(int)",
      "handed(int,int,int,int)", "kept(int,int,int,int)", "used(int,int)", "meaning(int,int,int)",
      "settles()", "letter(int,int)", "trace(int,int)", "served(int,int)", "merged(int,int)",
      "many(int)");
  private static final Set<String> CONSTANTS = Set.of("UNKNOWN", "OUTSIDE", "STATE", "FULL", "NONE");
  private static final List<String> RULED_OUT = List.of(
      "\\bthrows?\\b", "\\btry\\b", "\\bcatch\\b", "\\bsynchronized\\b", "\\bassert\\b", "::",
      "\\bpackage\\b", "\\bprotected\\b", "\\bnative\\b", "\\bvolatile\\b", "\\bThread\\b",
      "\\bRandom\\b", "\\brandom\\b", "\\bcurrentTimeMillis\\b", "\\bnanoTime\\b", "Exact\\b",
      "\\bhashCode\\b", "\\bstatic\\s*\\{", "\\bwhile\\s*\\(\\s*true", "@(?!Override\\b)",
      "\\bimport\\s+(?!java\\.util\\.(ArrayList|List|Arrays|Iterator);)", "\\bObject\\b", "\\bStream\\b");
  /** An arrow belongs to a switch, not to a lambda. */
  private static final Pattern ARROW = Pattern.compile("(?m)^(?!\\s*(case\\b|default\\b)).*->");
  private static final int LINES_OF_A_METHOD = 60;

  private static final Due due = new Due("LanguageTest");

  public static void main(String[] args) throws Exception {
    face();
    inside();
    words();
    due.finish();
  }

  private static void face() {
    Class<?> face = HandedLabels.class;
    due.yes("public and final", Modifier.isPublic(face.getModifiers()) && Modifier.isFinal(face.getModifiers()));
    Set<String> open = new TreeSet<>();
    Set<String> hidden = new TreeSet<>();
    for (Method m : face.getDeclaredMethods()) {
      if (Modifier.isPrivate(m.getModifiers())) {
        hidden.add(m.getName());
      } else {
        StringBuilder types = new StringBuilder();
        for (Class<?> t : m.getParameterTypes()) {
          types.append(types.length() == 0 ? "" : ",").append(t);
        }
        open.add(m.getName() + "(" + types + ")");
        due.yes(m + " is public, not static, of int", m.getReturnType() == int.class
            && (m.getModifiers() & (Modifier.PUBLIC | Modifier.STATIC)) == Modifier.PUBLIC);
      }
    }
    due.yes("the methods are the document's: " + open, open.equals(FACE));
    for (Method m : face.getDeclaredMethods()) {
      due.yes("no private method bears a public one's name: " + m.getName(),
          Modifier.isPrivate(m.getModifiers()) || !hidden.contains(m.getName()));
    }
    Constructor<?>[] made = face.getDeclaredConstructors();
    due.yes("one public constructor", made.length == 1 && Modifier.isPublic(made[0].getModifiers())
        && made[0].getParameterCount() == 0);
    for (Field f : face.getDeclaredFields()) {
      due.yes("a constant of the document, or private: " + f.getName(),
          Modifier.isPrivate(f.getModifiers()) != CONSTANTS.contains(f.getName()));
      due.yes("static ones are final: " + f.getName(),
          !Modifier.isStatic(f.getModifiers()) || Modifier.isFinal(f.getModifiers()));
    }
    int[] got = {HandedLabels.UNKNOWN, HandedLabels.OUTSIDE, HandedLabels.STATE, HandedLabels.FULL, HandedLabels.NONE};
    int[] want = {-1, -2, -3, -4, -9};
    for (int i = 0; i < want.length; i++) {
      due.is("constant " + i, got[i], want[i]);
    }
  }

  private static void inside() {
    Class<?>[] classes = HandedLabels.class.getDeclaredClasses();
    due.yes("some twelve classes at most", classes.length <= 11);
    for (Class<?> c : classes) {
      due.yes(c + " is static and not public", Modifier.isStatic(c.getModifiers())
          && !Modifier.isPublic(c.getModifiers()) && !Modifier.isProtected(c.getModifiers()));
      for (Method m : c.getDeclaredMethods()) {
        due.yes("seven parameters at most: " + m, m.getParameterCount() <= 7);
        for (String of : FACE) {
          due.yes("bears no public one's name: " + m, !of.startsWith(m.getName() + "("));
        }
      }
      int fields = 0;
      for (Field f : c.getDeclaredFields()) {
        if (!Modifier.isStatic(f.getModifiers())) {
          fields++;
        } else {
          due.yes("static ones are final: " + f, Modifier.isFinal(f.getModifiers()));
        }
      }
      due.yes("some twenty fields at most: " + c, fields <= 20);
    }
  }

  /** Its lines keep their numbers. */
  private static String withoutComments(String source) {
    Matcher comment = Pattern.compile("(?s)/\\*.*?\\*/|//[^\n]*").matcher(source);
    return comment.replaceAll(m -> m.group().replaceAll("[^\n]", ""));
  }

  private static void words() throws Exception {
    String source = Files.readString(Path.of("src/main/java/HandedLabels.java"));
    String code = withoutComments(source);
    for (String word : RULED_OUT) {
      Matcher found = Pattern.compile(word).matcher(code);
      due.yes("ruled out: " + word, !found.find());
    }
    due.yes("no lambda", !ARROW.matcher(code).find());
    methodsStayShort(code);
    for (int i = 0; i < source.length(); i++) {
      if (source.charAt(i) > 126) {
        due.yes("a sign beyond 126 at " + i, false);
      }
    }
  }

  /** A method is a block right inside a class whose head ends with its parameters. */
  private static void methodsStayShort(String code) {
    Deque<String> open = new ArrayDeque<>();
    int head = 0;
    int line = 1;
    int begun = 0;
    int methods = 0;
    for (int i = 0; i < code.length(); i++) {
      char sign = code.charAt(i);
      if (sign == '\n') {
        line++;
      } else if (sign == '{') {
        String kind = kindOf(code.substring(head, i).trim(), open.peek());
        begun = kind.equals("method") ? line : begun;
        open.push(kind);
      } else if (sign == '}' && open.pop().equals("method")) {
        methods++;
        due.yes("the method that begins in line " + begun + " is short", line - begun < LINES_OF_A_METHOD);
      }
      head = sign == '{' || sign == '}' || sign == ';' ? i + 1 : head;
    }
    due.yes("methods are found", methods >= FACE.size());
  }

  private static String kindOf(String head, String around) {
    if (head.matches("(?s).*\\b(class|enum|interface|record)\\b.*")) {
      return "class";
    }
    return head.endsWith(")") && "class".equals(around) ? "method" : "block";
  }
}
