import java.util.ArrayList;
import java.util.HashSet;
import java.util.List;
import java.util.Map;
import java.util.Set;
import java.util.TreeMap;
import java.util.TreeSet;

/**
 * The document once more, as near to its words as it goes and with no thought for speed, so that
 * the class can be held against it. It shares nothing with the class but the document.
 */
final class Model {
  static final int UNKNOWN = -1, OUTSIDE = -2, STATE = -3, FULL = -4, NONE = -9;

  static final class Link {
    final int a;
    final int b;
    int cost;
    boolean up = true;

    Link(int a, int b, int cost) {
      this.a = a;
      this.b = b;
      this.cost = cost;
    }

    boolean at(int box) {
      return a == box || b == box;
    }

    int across(int box) {
      return a == box ? b : a;
    }
  }

  record Slip(int label, int count) {}

  record Hop(int box, int label) {}

  private final List<Link> links = new ArrayList<>();
  private final Integer[] ends = new Integer[4];
  private final boolean[][] modes = new boolean[7][4];
  private boolean ordered = true;
  private int limit = 7;
  private int ticksSoFar = 0;
  private Map<String, Slip> handed = new TreeMap<>();
  private Map<String, Slip> kept = new TreeMap<>();
  private List<Hop> told = new ArrayList<>();

  private static String key(int box, int link, int cls) {
    return box + "/" + link + "/" + cls;
  }

  private static boolean in(int v, int low, int high) {
    return low <= v && v <= high;
  }

  private boolean box(int b) {
    return in(b, 0, 6);
  }

  private boolean cls(int c) {
    return in(c, 0, 3);
  }

  private boolean isLink(int l) {
    return in(l, 0, links.size() - 1);
  }

  // ---- the net

  int link(int a, int b, int cost) {
    if (!box(a) || !box(b)) return UNKNOWN;
    if (!in(cost, 1, 9)) return OUTSIDE;
    if (a == b) return STATE;
    for (Link k : links) if (k.at(a) && k.at(b)) return STATE;
    if (links.size() == 12) return FULL;
    links.add(new Link(a, b, cost));
    fars.clear();
    return links.size() - 1;
  }

  int cost(int l, int v) {
    if (!isLink(l)) return UNKNOWN;
    if (!in(v, 1, 9)) return OUTSIDE;
    int was = links.get(l).cost;
    links.get(l).cost = v;
    fars.clear();
    return was;
  }

  int up(int l, int v) {
    if (!isLink(l)) return UNKNOWN;
    if (!in(v, 0, 1)) return OUTSIDE;
    int was = links.get(l).up ? 1 : 0;
    links.get(l).up = v == 1;
    fars.clear();
    if (v == 0) {
      handed.keySet().removeIf(k -> k.split("/")[1].equals("" + l));
      kept.keySet().removeIf(k -> k.split("/")[1].equals("" + l));
    }
    return was;
  }

  int end(int c, int b) {
    if (!cls(c)) return UNKNOWN;
    if (!box(b) && b != NONE) return OUTSIDE;
    int was = ends[c] == null ? NONE : ends[c];
    ends[c] = b == NONE ? null : (Integer) b;
    fars.clear();
    return was;
  }

  int ofLink(int l, int what) {
    if (!isLink(l)) return UNKNOWN;
    if (!in(what, 0, 3)) return OUTSIDE;
    Link k = links.get(l);
    return new int[] {Math.min(k.a, k.b), Math.max(k.a, k.b), k.cost, k.up ? 1 : 0}[what];
  }

  private boolean isEnd(int b, int c) {
    return ends[c] != null && ends[c] == b;
  }

  /** By walking every way that meets no BOX twice. */
  private int leastSum(int b, int c, Set<Integer> been) {
    if (ends[c] == null) return NONE;
    if (isEnd(b, c)) return 0;
    int least = NONE;
    been.add(b);
    for (Link k : links) {
      if (k.up && k.at(b) && !been.contains(k.across(b))) {
        int rest = leastSum(k.across(b), c, been);
        if (rest != NONE && (least == NONE || rest + k.cost < least)) least = rest + k.cost;
      }
    }
    been.remove(b);
    return least;
  }

  /** What was found since the net changed last: walking every way takes long. */
  private final Map<Integer, Integer> fars = new TreeMap<>();

  private int farOf(int b, int c) {
    Integer known = fars.get(b * 10 + c);
    if (known == null) {
      known = leastSum(b, c, new HashSet<>());
      fars.put(b * 10 + c, known);
    }
    return known;
  }

  /** The number of the LINK to NEXT, or NONE. */
  private int nextLink(int b, int c) {
    if (isEnd(b, c) || farOf(b, c) == NONE) return NONE;
    TreeMap<Integer, Integer> byBox = new TreeMap<>();
    for (int l = 0; l < links.size(); l++) {
      Link k = links.get(l);
      if (k.up && k.at(b)) {
        int f = farOf(k.across(b), c);
        if (f != NONE && f + k.cost == farOf(b, c)) byBox.put(k.across(b), l);
      }
    }
    return byBox.firstEntry().getValue();
  }

  private int nextOf(int b, int c) {
    int l = nextLink(b, c);
    return l == NONE ? NONE : links.get(l).across(b);
  }

  int next(int b, int c) {
    return box(b) && cls(c) ? nextOf(b, c) : UNKNOWN;
  }

  int far(int b, int c) {
    return box(b) && cls(c) ? farOf(b, c) : UNKNOWN;
  }

  // ---- labels

  int mode(int b, int which, int v) {
    if (!box(b)) return UNKNOWN;
    if (!in(which, 0, 3) || !in(v, 0, 1)) return OUTSIDE;
    int was = modes[b][which] ? 1 : 0;
    modes[b][which] = v == 1;
    if (which == 2 && was != v) handed.keySet().removeIf(k -> k.startsWith(b + "/"));
    return was;
  }

  int setting(int which, int v) {
    if (which == 0) {
      if (!in(v, 0, 1)) return OUTSIDE;
      int was = ordered ? 1 : 0;
      ordered = v == 1;
      return was;
    }
    if (which != 1 || !in(v, 1, 9)) return OUTSIDE;
    int was = limit;
    limit = v;
    return was;
  }

  private Slip usedSlip(int b, int c) {
    int l = nextLink(b, c);
    return l == NONE ? null : kept.get(key(b, l, c));
  }

  /** null: does not hand it. */
  private Integer count(int b, int c) {
    if (isEnd(b, c)) return 0;
    if (nextLink(b, c) == NONE) return null;
    Slip used = usedSlip(b, c);
    if (used != null) return used.count + 1 > limit ? null : (Integer) (used.count + 1);
    return ordered ? null : (Integer) 1;
  }

  private List<Integer> over(int b, int c) {
    List<Integer> out = new ArrayList<>();
    if (count(b, c) == null) return out;
    for (int l = 0; l < links.size(); l++) {
      Link k = links.get(l);
      if (k.up && k.at(b) && (!modes[b][0] || nextOf(k.across(b), c) == b)) out.add(l);
    }
    return out;
  }

  /** The name of the ROW in which a BOX has its number for a LINK. */
  private int row(int b, int l) {
    return modes[b][2] ? l : 0;
  }

  private void tick() {
    Map<String, Slip> now = new TreeMap<>();
    for (int b = 0; b < 7; b++) {
      Map<Integer, Set<Integer>> taken = new TreeMap<>();
      Map<String, Integer> label = new TreeMap<>();
      for (int c = 0; c < 4; c++) {
        for (int l : over(b, c)) {
          if (isEnd(b, c) && modes[b][3]) {
            label.put(row(b, l) + "/" + c, 3);
            continue;
          }
          for (int m = 0; m < links.size(); m++) {
            Slip s = handed.get(key(b, m, c));
            if (row(b, m) == row(b, l) && s != null && s.label >= 16) {
              label.put(row(b, l) + "/" + c, s.label);
              taken.computeIfAbsent(row(b, l), k -> new TreeSet<>()).add(s.label);
            }
          }
        }
      }
      for (int c = 0; c < 4; c++) {
        for (int l : over(b, c)) {
          String place = row(b, l) + "/" + c;
          if (!label.containsKey(place)) {
            Set<Integer> here = taken.computeIfAbsent(row(b, l), k -> new TreeSet<>());
            int n = 16;
            while (here.contains(n)) n++;
            here.add(n);
            label.put(place, n);
          }
          now.put(key(b, l, c), new Slip(label.get(place), count(b, c)));
        }
      }
    }
    Map<String, Slip> keep = new TreeMap<>();
    for (int b = 0; b < 7; b++) {
      for (int l = 0; l < links.size(); l++) {
        for (int c = 0; c < 4; c++) {
          Link k = links.get(l);
          if (!k.up || !k.at(b)) continue;
          Slip s = now.get(key(k.across(b), l, c));
          if (s != null && (!modes[b][1] || nextOf(b, c) == k.across(b))) keep.put(key(b, l, c), s);
        }
      }
    }
    handed = now;
    kept = keep;
  }

  int ticks(int n) {
    if (!in(n, 0, 20)) return OUTSIDE;
    int changed = 0;
    for (int i = 0; i < n; i++) {
      Map<String, Slip> ahead = handed;
      tick();
      ticksSoFar++;
      if (!ahead.equals(handed)) changed++;
    }
    return changed;
  }

  private int part(Map<String, Slip> of, int b, int l, int c, int what) {
    if (!box(b) || !isLink(l) || !cls(c) || !links.get(l).at(b)) return UNKNOWN;
    if (!in(what, 0, 1)) return OUTSIDE;
    Slip s = of.get(key(b, l, c));
    return s == null ? NONE : what == 0 ? s.label : s.count;
  }

  int handed(int b, int l, int c, int what) {
    return part(handed, b, l, c, what);
  }

  int kept(int b, int l, int c, int what) {
    return part(kept, b, l, c, what);
  }

  int used(int b, int c) {
    if (!box(b) || !cls(c)) return UNKNOWN;
    Slip s = usedSlip(b, c);
    return s == null ? NONE : s.label;
  }

  private int classFor(int b, int l, int label) {
    for (int c = 0; c < 4; c++) {
      for (int m = 0; m < links.size(); m++) {
        Slip s = handed.get(key(b, m, c));
        if (s != null && s.label == label && (m == l || !modes[b][2])) return c;
      }
    }
    return NONE;
  }

  int meaning(int b, int l, int label) {
    if (!box(b) || !isLink(l) || !links.get(l).at(b)) return UNKNOWN;
    if (!in(label, 0, 99)) return OUTSIDE;
    return classFor(b, l, label);
  }

  int settles() {
    Map<String, Slip> handedThen = handed;
    Map<String, Slip> keptThen = kept;
    int answer = NONE;
    for (int i = 0; i < 30 && answer == NONE; i++) {
      Map<String, Slip> h = handed;
      Map<String, Slip> k = kept;
      tick();
      if (h.equals(handed) && k.equals(kept)) answer = i;
    }
    handed = handedThen;
    kept = keptThen;
    return answer;
  }

  // ---- letters

  private int send(int from, int own, List<Hop> way) {
    int at = from;
    int label = 0;
    int link = NONE;
    while (true) {
      way.add(new Hop(at, label));
      int c = label == 0 ? own : classFor(at, link, label);
      if (c == NONE) return 2;
      if (isEnd(at, c)) return 0;
      if (nextLink(at, c) == NONE) return 1;
      Slip s = usedSlip(at, c);
      if (label != 0 && s == null) return 3;
      if (way.size() == 15) return 4;
      link = nextLink(at, c);
      label = s == null || s.label == 3 ? 0 : s.label;
      at = links.get(link).across(at);
    }
  }

  int letter(int b, int c) {
    if (!box(b) || !cls(c)) return UNKNOWN;
    told = new ArrayList<>();
    return send(b, c, told);
  }

  int trace(int k, int what) {
    if (!in(k, 0, 14) || !in(what, 0, 1)) return OUTSIDE;
    if (k >= told.size()) return NONE;
    return what == 0 ? told.get(k).box : told.get(k).label;
  }

  int served(int c, int how) {
    if (!cls(c)) return UNKNOWN;
    if (!in(how, 0, 2)) return OUTSIDE;
    int set = 0;
    for (int b = 0; b < 7; b++) {
      List<Hop> way = new ArrayList<>();
      boolean there = send(b, c, way) == 0;
      boolean bare = false;
      for (int i = 1; i + 1 < way.size(); i++) bare |= way.get(i).label == 0;
      if (how == 0 ? there : how == 1 ? !there : there && !bare) set += 1 << b;
    }
    return set;
  }

  int merged(int b, int c) {
    if (!box(b) || !cls(c)) return UNKNOWN;
    int set = 0;
    for (int o = 0; o < 7; o++) if (nextOf(o, c) == b && usedSlip(o, c) != null) set += 1 << o;
    return set;
  }

  int many(int what) {
    switch (what) {
      case 0: return links.size();
      case 1: return (int) links.stream().filter(k -> k.up).count();
      case 2: return handed.size();
      case 3: return kept.size();
      case 4: {
        int n = 0;
        for (Integer e : ends) if (e != null) n++;
        return n;
      }
      case 5: return ticksSoFar;
      case 6: return handed.values().stream().mapToInt(s -> s.label).max().orElse(0);
      default: return OUTSIDE;
    }
  }
}
