/**
 * Labels handed hop by hop over a small net of boxes and links.
 *
 * <p>Inside, a LINK has two sides: side 2 * l belongs to its lesser BOX, side 2 * l + 1 to the
 * greater one, so that the other end of a side is always side ^ 1.
 */
public final class HandedLabels {
  public static final int UNKNOWN = -1, OUTSIDE = -2, STATE = -3, FULL = -4, NONE = -9;

  private static final int BOXES = 7;
  private static final int LINKS = 12;
  private static final int CLASSES = 4;
  private static final int SIDES = 2 * LINKS;

  private static final int MODES = 4;
  private static final int ASKED = 0;
  private static final int SPARING = 1;
  private static final int LINKWISE = 2;
  private static final int EARLY = 3;

  private static final int MOST_COST = 9;
  private static final int MOST_LIMIT = 9;
  private static final int MOST_TICKS = 20;
  private static final int MOST_TRIED = 30;
  private static final int MOST_LABEL = 99;
  private static final int MOST_HOPS = 14;

  private static final int TAKE_OFF = 3;
  private static final int FIRST_LABEL = 16;

  private static final int THERE = 0;
  private static final int LOST_NO_NEXT = 1;
  private static final int LOST_NO_MEANING = 2;
  private static final int LOST_NOTHING_USED = 3;
  private static final int LOST_TOO_FAR = 4;

  private static final int NO_SIDE = -1;
  private static final int NO_CLASS = -1;

  private final Net net;
  private final Labels labels;
  private final Way told;
  /** A way of its own, so that asking who is served leaves the told one as it is. */
  private final Way tried;

  public HandedLabels() {
    net = new Net();
    labels = new Labels(net);
    told = new Way(net, labels);
    tried = new Way(net, labels);
  }

  // ---- 1 the net

  public int link(int a, int b, int cost) {
    if (!isBox(a) || !isBox(b)) {
      return UNKNOWN;
    }
    if (!isCost(cost)) {
      return OUTSIDE;
    }
    if (a == b || net.joined(a, b)) {
      return STATE;
    }
    if (net.links >= LINKS) {
      return FULL;
    }
    return net.addLink(Math.min(a, b), Math.max(a, b), cost);
  }

  public int cost(int l, int v) {
    if (!net.isLink(l)) {
      return UNKNOWN;
    }
    if (!isCost(v)) {
      return OUTSIDE;
    }
    int was = net.costs[l];
    net.setCost(l, v);
    return was;
  }

  public int up(int l, int v) {
    if (!net.isLink(l)) {
      return UNKNOWN;
    }
    if (!isYesNo(v)) {
      return OUTSIDE;
    }
    int was = net.ups[l];
    net.setUp(l, v);
    if (v == 0) {
      labels.forgetLink(l);
    }
    return was;
  }

  public int end(int c, int box) {
    if (!isClass(c)) {
      return UNKNOWN;
    }
    if (!isBox(box) && box != NONE) {
      return OUTSIDE;
    }
    int was = net.ends[c];
    net.setEnd(c, box);
    return was;
  }

  public int ofLink(int l, int what) {
    if (!net.isLink(l)) {
      return UNKNOWN;
    }
    switch (what) {
      case 0:
        return net.owners[2 * l];
      case 1:
        return net.owners[2 * l + 1];
      case 2:
        return net.costs[l];
      case 3:
        return net.ups[l];
      default:
        return OUTSIDE;
    }
  }

  public int next(int box, int c) {
    if (!isBox(box) || !isClass(c)) {
      return UNKNOWN;
    }
    return net.nextBox(box, c);
  }

  public int far(int box, int c) {
    if (!isBox(box) || !isClass(c)) {
      return UNKNOWN;
    }
    return net.fars[pair(box, c)];
  }

  // ---- 2 labels

  public int mode(int box, int which, int v) {
    if (!isBox(box)) {
      return UNKNOWN;
    }
    if (which < 0 || which >= MODES || !isYesNo(v)) {
      return OUTSIDE;
    }
    return labels.changeMode(box, which, v);
  }

  public int setting(int which, int v) {
    if (which == 0 && isYesNo(v)) {
      int was = labels.ordered;
      labels.ordered = v;
      return was;
    }
    if (which == 1 && v >= 1 && v <= MOST_LIMIT) {
      int was = labels.limit;
      labels.limit = v;
      return was;
    }
    return OUTSIDE;
  }

  public int ticks(int n) {
    if (n < 0 || n > MOST_TICKS) {
      return OUTSIDE;
    }
    return labels.runTicks(n);
  }

  public int handed(int box, int l, int c, int what) {
    int side = sideFor(box, l);
    if (side == NO_SIDE || !isClass(c)) {
      return UNKNOWN;
    }
    return partOf(labels.slipsHanded[slot(side, c)], what);
  }

  public int kept(int box, int l, int c, int what) {
    int side = sideFor(box, l);
    if (side == NO_SIDE || !isClass(c)) {
      return UNKNOWN;
    }
    return partOf(labels.slipsKept[slot(side, c)], what);
  }

  public int used(int box, int c) {
    if (!isBox(box) || !isClass(c)) {
      return UNKNOWN;
    }
    int slip = labels.slipUsed(box, c);
    return slip == 0 ? NONE : labelOf(slip);
  }

  public int meaning(int box, int l, int label) {
    int side = sideFor(box, l);
    if (side == NO_SIDE) {
      return UNKNOWN;
    }
    if (label < 0 || label > MOST_LABEL) {
      return OUTSIDE;
    }
    int c = labels.classMeant(box, side, label);
    return c == NO_CLASS ? NONE : c;
  }

  public int settles() {
    return labels.ticksTillStill();
  }

  // ---- 3 letters

  public int letter(int box, int c) {
    if (!isBox(box) || !isClass(c)) {
      return UNKNOWN;
    }
    return told.walk(box, c);
  }

  public int trace(int k, int what) {
    if (k < 0 || k > MOST_HOPS || what < 0 || what > 1) {
      return OUTSIDE;
    }
    if (k >= told.length) {
      return NONE;
    }
    return what == 0 ? told.boxes[k] : told.cameWith[k];
  }

  public int served(int c, int how) {
    if (!isClass(c)) {
      return UNKNOWN;
    }
    if (how < 0 || how > 2) {
      return OUTSIDE;
    }
    int set = 0;
    for (int box = 0; box < BOXES; box++) {
      if (isServed(box, c, how)) {
        set |= 1 << box;
      }
    }
    return set;
  }

  public int merged(int box, int c) {
    if (!isBox(box) || !isClass(c)) {
      return UNKNOWN;
    }
    int set = 0;
    for (int other = 0; other < BOXES; other++) {
      if (net.nextBox(other, c) == box && labels.slipUsed(other, c) != 0) {
        set |= 1 << other;
      }
    }
    return set;
  }

  public int many(int what) {
    switch (what) {
      case 0:
        return net.links;
      case 1:
        return net.linksUp();
      case 2:
        return countSlips(labels.slipsHanded);
      case 3:
        return countSlips(labels.slipsKept);
      case 4:
        return net.classesWithEnd();
      case 5:
        return labels.ticksSoFar;
      case 6:
        return labels.greatestLabel();
      default:
        return OUTSIDE;
    }
  }

  private boolean isServed(int box, int c, int how) {
    boolean there = tried.walk(box, c) == THERE;
    if (how == 0) {
      return there;
    }
    if (how == 1) {
      return !there;
    }
    return there && tried.labelledBetween();
  }

  /** NO_SIDE also where there is no such BOX or LINK: the document refuses all three alike. */
  private int sideFor(int box, int l) {
    return isBox(box) && net.isLink(l) ? net.sideAt(l, box) : NO_SIDE;
  }

  private static boolean isBox(int box) {
    return box >= 0 && box < BOXES;
  }

  private static boolean isClass(int c) {
    return c >= 0 && c < CLASSES;
  }

  private static boolean isCost(int v) {
    return v >= 1 && v <= MOST_COST;
  }

  private static boolean isYesNo(int v) {
    return v == 0 || v == 1;
  }

  private static int pair(int box, int c) {
    return box * CLASSES + c;
  }

  private static int slot(int side, int c) {
    return side * CLASSES + c;
  }

  // A slip is a LABEL and a COUNT in one number, so that two of them are compared at once.
  // Every LABEL is above 0, so 0 is left to say "nothing". A COUNT is at most MOST_LIMIT.

  private static int slipWith(int label, int count) {
    return label * 16 + count;
  }

  private static int labelOf(int slip) {
    return slip >> 4;
  }

  private static int countOf(int slip) {
    return slip & 15;
  }

  private static int partOf(int slip, int what) {
    if (what < 0 || what > 1) {
      return OUTSIDE;
    }
    if (slip == 0) {
      return NONE;
    }
    return what == 0 ? labelOf(slip) : countOf(slip);
  }

  private static int countSlips(int[] slips) {
    int n = 0;
    for (int i = 0; i < slips.length; i++) {
      if (slips[i] != 0) {
        n++;
      }
    }
    return n;
  }

  /** BOXES, LINKS, ENDS; and FAR and NEXT, made anew whenever one of these changes. */
  private static final class Net {
    int links;
    final int[] owners = new int[SIDES];
    final int[] costs = new int[LINKS];
    final int[] ups = new int[LINKS];
    final int[] ends = new int[CLASSES];
    final int[] fars = new int[BOXES * CLASSES];
    /** The BOX's own side of the LINK to its NEXT. */
    final int[] nextSides = new int[BOXES * CLASSES];

    Net() {
      for (int c = 0; c < CLASSES; c++) {
        ends[c] = NONE;
      }
      for (int i = 0; i < BOXES * CLASSES; i++) {
        fars[i] = NONE;
        nextSides[i] = NO_SIDE;
      }
    }

    boolean isLink(int l) {
      return l >= 0 && l < links;
    }

    boolean joined(int a, int b) {
      for (int l = 0; l < links; l++) {
        if (sideAt(l, a) != NO_SIDE && sideAt(l, b) != NO_SIDE) {
          return true;
        }
      }
      return false;
    }

    int sideAt(int l, int box) {
      if (owners[2 * l] == box) {
        return 2 * l;
      }
      return owners[2 * l + 1] == box ? 2 * l + 1 : NO_SIDE;
    }

    int addLink(int lesser, int greater, int cost) {
      int l = links;
      links++;
      owners[2 * l] = lesser;
      owners[2 * l + 1] = greater;
      costs[l] = cost;
      ups[l] = 1;
      findWays();
      return l;
    }

    void setCost(int l, int v) {
      costs[l] = v;
      findWays();
    }

    void setUp(int l, int v) {
      ups[l] = v;
      findWays();
    }

    void setEnd(int c, int box) {
      ends[c] = box;
      findWaysOf(c);
    }

    int nextBox(int box, int c) {
      int side = nextSides[pair(box, c)];
      return side == NO_SIDE ? NONE : owners[side ^ 1];
    }

    boolean isUpSide(int side) {
      return ups[side >> 1] == 1;
    }

    int linksUp() {
      int n = 0;
      for (int l = 0; l < links; l++) {
        n += ups[l];
      }
      return n;
    }

    int classesWithEnd() {
      int n = 0;
      for (int c = 0; c < CLASSES; c++) {
        if (ends[c] != NONE) {
          n++;
        }
      }
      return n;
    }

    private void findWays() {
      for (int c = 0; c < CLASSES; c++) {
        findWaysOf(c);
      }
    }

    private void findWaysOf(int c) {
      for (int box = 0; box < BOXES; box++) {
        fars[pair(box, c)] = box == ends[c] ? 0 : NONE;
      }
      // A least way has fewer LINKS than there are BOXES, so that many rounds reach all.
      boolean nearer = ends[c] != NONE;
      for (int round = 0; nearer && round < BOXES; round++) {
        nearer = shorten(c);
      }
      for (int box = 0; box < BOXES; box++) {
        nextSides[pair(box, c)] = findNextSide(box, c);
      }
    }

    private boolean shorten(int c) {
      boolean nearer = false;
      for (int side = 0; side < 2 * links; side++) {
        int beyond = fars[pair(owners[side ^ 1], c)];
        if (isUpSide(side) && beyond != NONE) {
          int mine = pair(owners[side], c);
          int sum = beyond + costs[side >> 1];
          if (fars[mine] == NONE || sum < fars[mine]) {
            fars[mine] = sum;
            nearer = true;
          }
        }
      }
      return nearer;
    }

    private int findNextSide(int box, int c) {
      if (box == ends[c] || fars[pair(box, c)] == NONE) {
        return NO_SIDE;
      }
      int best = NO_SIDE;
      for (int side = 0; side < 2 * links; side++) {
        if (owners[side] == box && leadsOn(side, c)
            && (best == NO_SIDE || owners[side ^ 1] < owners[best ^ 1])) {
          best = side;
        }
      }
      return best;
    }

    /** Whether the FAR of the side's BOX is made with the BOX beyond it. */
    private boolean leadsOn(int side, int c) {
      int beyond = fars[pair(owners[side ^ 1], c)];
      return isUpSide(side) && beyond != NONE
          && beyond + costs[side >> 1] == fars[pair(owners[side], c)];
    }
  }

  /** MODES, SETTINGS, what is HANDED and KEPT, and the TICK. */
  private static final class Labels {
    /** What a TICK changed, as bits. */
    private static final int CHANGED_HANDED = 1;
    private static final int CHANGED_KEPT = 2;

    private static final int NOT_HANDING = -1;
    private static final int NOT_IN_ROW = -1;
    private static final int TO_BE_GIVEN = 0;
    /** No LABEL of the document: it holds the place of one till the rows are filled. */
    private static final int PLACE_HOLDER = 1;

    private final Net net;
    int ordered = 1;
    int limit = 7;
    int ticksSoFar;
    final int[] slipsHanded = new int[SIDES * CLASSES];
    final int[] slipsKept = new int[SIDES * CLASSES];
    private final int[] modes = new int[BOXES * MODES];
    private final int[] fresh = new int[SIDES * CLASSES];
    private final int[] counts = new int[CLASSES];
    private final int[] rowLabels = new int[CLASSES];
    private final int[] savedHanded = new int[SIDES * CLASSES];
    private final int[] savedKept = new int[SIDES * CLASSES];

    Labels(Net net) {
      this.net = net;
    }

    boolean has(int box, int which) {
      return modes[box * MODES + which] == 1;
    }

    int changeMode(int box, int which, int v) {
      int was = modes[box * MODES + which];
      modes[box * MODES + which] = v;
      if (which == LINKWISE && v != was) {
        handNothing(box);
      }
      return was;
    }

    private void handNothing(int box) {
      for (int i = 0; i < slot(2 * net.links, 0); i++) {
        if (net.owners[i / CLASSES] == box) {
          slipsHanded[i] = 0;
        }
      }
    }

    void forgetLink(int l) {
      for (int i = slot(2 * l, 0); i < slot(2 * l + 2, 0); i++) {
        slipsHanded[i] = 0;
        slipsKept[i] = 0;
      }
    }

    int slipUsed(int box, int c) {
      int side = net.nextSides[pair(box, c)];
      return side == NO_SIDE ? 0 : slipsKept[slot(side, c)];
    }

    int classMeant(int box, int side, int label) {
      int from = has(box, LINKWISE) ? side : 0;
      int to = has(box, LINKWISE) ? side + 1 : 2 * net.links;
      for (int c = 0; c < CLASSES; c++) {
        for (int s = from; s < to; s++) {
          int slip = slipsHanded[slot(s, c)];
          if (net.owners[s] == box && slip != 0 && labelOf(slip) == label) {
            return c;
          }
        }
      }
      return NO_CLASS;
    }

    int greatestLabel() {
      int greatest = 0;
      for (int i = 0; i < slipsHanded.length; i++) {
        greatest = Math.max(greatest, labelOf(slipsHanded[i]));
      }
      return greatest;
    }

    int runTicks(int n) {
      int changing = 0;
      for (int i = 0; i < n; i++) {
        if ((tick() & CHANGED_HANDED) != 0) {
          changing++;
        }
      }
      ticksSoFar += n;
      return changing;
    }

    int ticksTillStill() {
      System.arraycopy(slipsHanded, 0, savedHanded, 0, savedHanded.length);
      System.arraycopy(slipsKept, 0, savedKept, 0, savedKept.length);
      int still = NONE;
      for (int i = 0; still == NONE && i < MOST_TRIED; i++) {
        if (tick() == 0) {
          still = i;
        }
      }
      System.arraycopy(savedHanded, 0, slipsHanded, 0, savedHanded.length);
      System.arraycopy(savedKept, 0, slipsKept, 0, savedKept.length);
      return still;
    }

    private int tick() {
      // All BOXES go by what was HANDED ahead, so the new slips wait in a row of their own.
      for (int box = 0; box < BOXES; box++) {
        placeSlips(box);
        fillRows(box);
      }
      int changed = takeFresh() ? CHANGED_HANDED : 0;
      return keepAll() ? changed | CHANGED_KEPT : changed;
    }

    /** (a) and (b) of a TICK: who hands what, over which LINKS, the LABELS still open. */
    private void placeSlips(int box) {
      for (int c = 0; c < CLASSES; c++) {
        counts[c] = countToHand(box, c);
      }
      for (int side = 0; side < 2 * net.links; side++) {
        if (net.owners[side] == box) {
          placeOver(side);
        }
      }
    }

    private void placeOver(int side) {
      for (int c = 0; c < CLASSES; c++) {
        boolean goes = counts[c] != NOT_HANDING && goesOver(side, c);
        fresh[slot(side, c)] = goes ? slipWith(PLACE_HOLDER, counts[c]) : 0;
      }
    }

    private int countToHand(int box, int c) {
      if (net.ends[c] == box) {
        return 0;
      }
      if (net.nextSides[pair(box, c)] == NO_SIDE) {
        return NOT_HANDING;
      }
      int slip = slipUsed(box, c);
      if (slip == 0) {
        return ordered == 1 ? NOT_HANDING : 1;
      }
      int count = countOf(slip) + 1;
      return count > limit ? NOT_HANDING : count;
    }

    private boolean goesOver(int side, int c) {
      if (!net.isUpSide(side)) {
        return false;
      }
      int beyond = net.owners[side ^ 1];
      return !has(net.owners[side], ASKED) || net.nextSides[pair(beyond, c)] == (side ^ 1);
    }

    /** (c) of a TICK. */
    private void fillRows(int box) {
      if (!has(box, LINKWISE)) {
        fillRow(box, 0, 2 * net.links);
        return;
      }
      for (int side = 0; side < 2 * net.links; side++) {
        if (net.owners[side] == box) {
          fillRow(box, side, side + 1);
        }
      }
    }

    /** The row of numbers that the BOX has for its sides among those told. */
    private void fillRow(int box, int from, int to) {
      int taken = 0;
      for (int c = 0; c < CLASSES; c++) {
        rowLabels[c] = labelAhead(box, c, from, to);
        taken |= bitOf(rowLabels[c]);
      }
      for (int c = 0; c < CLASSES; c++) {
        if (rowLabels[c] == TO_BE_GIVEN) {
          rowLabels[c] = leastFree(taken);
          taken |= bitOf(rowLabels[c]);
        }
      }
      for (int side = from; side < to; side++) {
        if (net.owners[side] == box) {
          labelOver(side);
        }
      }
    }

    private void labelOver(int side) {
      for (int c = 0; c < CLASSES; c++) {
        int slip = fresh[slot(side, c)];
        if (slip != 0) {
          fresh[slot(side, c)] = slipWith(rowLabels[c], countOf(slip));
        }
      }
    }

    /** The LABEL that a CLASS has in a row ahead of all giving: TAKE_OFF, or one that stays. */
    private int labelAhead(int box, int c, int from, int to) {
      boolean inRow = false;
      int stays = TO_BE_GIVEN;
      for (int side = from; side < to; side++) {
        if (net.owners[side] == box) {
          inRow = inRow || fresh[slot(side, c)] != 0;
          int label = labelOf(slipsHanded[slot(side, c)]);
          stays = label >= FIRST_LABEL ? label : stays;
        }
      }
      if (!inRow) {
        return NOT_IN_ROW;
      }
      return net.ends[c] == box && has(box, EARLY) ? TAKE_OFF : stays;
    }

    private static int bitOf(int label) {
      return label >= FIRST_LABEL ? 1 << (label - FIRST_LABEL) : 0;
    }

    private static int leastFree(int taken) {
      // A row holds one number for each CLASS at most, so one of the first ones is free.
      for (int label = FIRST_LABEL; label < FIRST_LABEL + CLASSES; label++) {
        if ((taken & bitOf(label)) == 0) {
          return label;
        }
      }
      return FIRST_LABEL + CLASSES;
    }

    private boolean takeFresh() {
      boolean changed = false;
      for (int i = 0; i < slot(2 * net.links, 0); i++) {
        changed = changed || slipsHanded[i] != fresh[i];
        slipsHanded[i] = fresh[i];
      }
      return changed;
    }

    /** (d) of a TICK. */
    private boolean keepAll() {
      boolean changed = false;
      for (int side = 0; side < 2 * net.links; side++) {
        for (int c = 0; c < CLASSES; c++) {
          int slip = slipToKeep(side, c);
          changed = changed || slipsKept[slot(side, c)] != slip;
          slipsKept[slot(side, c)] = slip;
        }
      }
      return changed;
    }

    private int slipToKeep(int side, int c) {
      int box = net.owners[side];
      if (has(box, SPARING) && net.nextSides[pair(box, c)] != side) {
        return 0;
      }
      return slipsHanded[slot(side ^ 1, c)];
    }
  }

  /** The way of one LETTER: the BOXES at which it was, and the LABELS with which it came there. */
  private static final class Way {
    private final Net net;
    private final Labels labels;
    int length;
    final int[] boxes = new int[MOST_HOPS + 1];
    /** 0: without a LABEL. */
    final int[] cameWith = new int[MOST_HOPS + 1];

    Way(Net net, Labels labels) {
      this.net = net;
      this.labels = labels;
    }

    int walk(int start, int own) {
      int box = start;
      int label = 0;
      int cameOver = NO_SIDE;
      for (int hops = 0; hops <= MOST_HOPS; hops++) {
        boxes[hops] = box;
        cameWith[hops] = label;
        length = hops + 1;
        int c = label == 0 ? own : labels.classMeant(box, cameOver, label);
        if (c == NO_CLASS) {
          return LOST_NO_MEANING;
        }
        if (net.ends[c] == box) {
          return THERE;
        }
        int side = net.nextSides[pair(box, c)];
        if (side == NO_SIDE) {
          return LOST_NO_NEXT;
        }
        int slip = labels.slipUsed(box, c);
        if (slip == 0 && label != 0) {
          return LOST_NOTHING_USED;
        }
        label = labelOf(slip) == TAKE_OFF ? 0 : labelOf(slip);
        cameOver = side ^ 1;
        box = net.owners[cameOver];
      }
      return LOST_TOO_FAR;
    }

    boolean labelledBetween() {
      for (int k = 1; k < length - 1; k++) {
        if (cameWith[k] == 0) {
          return false;
        }
      }
      return true;
    }
  }
}
