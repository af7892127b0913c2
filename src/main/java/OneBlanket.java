import java.util.Arrays;

/** One blanket for two: who lies where, under what, how warm, and who drew the cover away. */
public final class OneBlanket {
  public static final int BAD = -1, NOT = -2, FULL = -3, STATE = -5, VOID = -2000000000;

  private static final int NOTHING_THERE = -11, OTHER_KIND = -12, NO_PLACE = -13, BELOW_ZERO = -14;
  private static final int MINUTES = 480, LAST_MINUTE = MINUTES - 1;
  private static final int SLEEPERS = 6, COVERS = 3, TURNS = 60, LAWS = 4;
  private static final int NO_LAW = -1, NO_ONE = -1;
  private static final int LEAST_WIDTH = 5, MOST_WIDTH = 80, MOST_TUCK = 9;
  private static final int TAPE_BYTES = 120;
  private static final int ORDERS = 720;
  private static final int FRAMES = 9;
  private static final int KINDS = 8, ACTS = 4;
  private static final int SHELVES = 6, ROW_LENGTH = 60, SHORTS = 1, BOOLEANS = 4;

  private final Bed bed = new Bed();
  private final Turns turns = new Turns();
  private final Room room = new Room();
  private final Text[] laws = new Text[LAWS];
  private final Night night = new Night(bed, turns, room, laws);
  private final Changes changes = new Changes();
  private final Tape tape = new Tape();
  private final Bodies bodies = new Bodies();
  private final Shelf[] shelves = new Shelf[SHELVES];
  private final int[] order = new int[SLEEPERS];
  private final int[] sideBySide = new int[SLEEPERS];
  private int lawCount;
  private int inForce = NO_LAW;

  public OneBlanket() {
    for (int i = 0; i < LAWS; i++) {
      laws[i] = new Text();
    }
    for (int i = 0; i < SHELVES; i++) {
      shelves[i] = new Shelf();
    }
  }

  // ---- the bed

  public int wide(int cells) {
    if (cells < 20 || cells > 60) {
      return BAD;
    }
    if (bed.sleepers > 0) {
      return STATE;
    }
    int was = bed.cells;
    bed.cells = cells;
    return was;
  }

  public int sleeper(int pb, int wh) {
    if (pb < 0 || wh < 0 || wh > 9999) {
      return BAD;
    }
    int place = pb / 100;
    int breadth = pb % 100;
    if (breadth < 4 || breadth > 20 || place > bed.cells - breadth) {
      return BAD;
    }
    if (bed.sleepers >= SLEEPERS) {
      return FULL;
    }
    return bed.addSleeper(place, breadth, wh / 100, wh % 100);
  }

  public int cover(int left, int ww, int tuck) {
    if (left < -40 || left > 60 || ww < 0 || tuck < 0 || tuck > MOST_TUCK) {
      return BAD;
    }
    int width = ww / 100;
    int warmth = ww % 100;
    if (width < LEAST_WIDTH || width > MOST_WIDTH || warmth > 50) {
      return BAD;
    }
    if (bed.covers >= COVERS) {
      return FULL;
    }
    return bed.addCover(left, width, warmth, tuck);
  }

  public int mend(int number, int what, int v) {
    if (what < 0 || what > 3) {
      return BAD;
    }
    boolean there = what < 2 ? bed.hasSleeper(number) : bed.hasCover(number);
    if (!there || v < leastOf(what) || v > mostOf(what)) {
      return BAD;
    }
    int[] values = bed.mendable(what);
    int was = values[number];
    // what becomes what it was is no change: there is nothing to undo, and it does not come behind one undone
    if (v != was) {
      values[number] = v;
      changes.add(number, what, was, v);
    }
    return was;
  }

  private static int leastOf(int what) {
    return what == 2 ? LEAST_WIDTH : 0;
  }

  private static int mostOf(int what) {
    return what == 3 ? MOST_TUCK : what == 2 ? MOST_WIDTH : 99;
  }

  public int of(int number, int what) {
    if (what >= 0 && what <= 3) {
      return bed.hasSleeper(number) ? bed.ofSleeper(number, what) : VOID;
    }
    if (what >= 10 && what <= 13) {
      return bed.hasCover(number) ? bed.ofCover(number, what - 10) : VOID;
    }
    if (what >= 20 && what <= 22) {
      return turns.has(number) ? turns.ofTurn(number, what - 20) : VOID;
    }
    return VOID;
  }

  public int feed(int letter) {
    if (letter < 0 || letter > 255) {
      return BAD;
    }
    if (tape.length >= TAPE_BYTES) {
      return FULL;
    }
    tape.add(letter);
    return tape.length;
  }

  public int law() {
    if (lawCount >= LAWS) {
      return FULL;
    }
    int fault = tape.readAll();
    if (fault >= 0) {
      return -100 - fault;
    }
    laws[lawCount].become(tape.text);
    lawCount++;
    return lawCount - 1;
  }

  public int room() {
    int fault = tape.readAll();
    if (fault >= 0) {
      return -100 - fault;
    }
    room.warmBy(tape.text);
    return 1;
  }

  public int force(int law) {
    if (law < NO_LAW || law >= lawCount) {
      return VOID;
    }
    int was = inForce;
    inForce = law;
    return was;
  }

  // ---- turns, the night

  public int turn(int minute, int sleeper, int cells) {
    if (!Turns.mayBe(minute, sleeper, cells)) {
      return BAD;
    }
    if (turns.count >= TURNS) {
      return FULL;
    }
    return turns.add(minute, sleeper, cells);
  }

  public int tosses(int shelf, int i, int n) {
    if (!hasShelf(shelf) || n < 1 || n > 20) {
      return BAD;
    }
    Shelf from = shelves[shelf];
    if (from.isEmpty()) {
      return 0;
    }
    if (!from.isRowOf(SHORTS)) {
      return OTHER_KIND;
    }
    if (i < 0) {
      return 0;
    }
    return tossedFrom(from, i, n);
  }

  private int tossedFrom(Shelf from, int i, int n) {
    for (int came = 0; came < n; came++) {
      if (i > from.size - 3 || turns.count >= TURNS) {
        return came;
      }
      int minute = (int) from.elements[i];
      int sleeper = (int) from.elements[i + 1];
      int cells = (int) from.elements[i + 2];
      if (!Turns.mayBe(minute, sleeper, cells)) {
        return came;
      }
      turns.add(minute, sleeper, cells);
      i += 3;
    }
    return n;
  }

  public int clear() {
    int were = turns.count;
    turns.count = 0;
    return were;
  }

  public int lies(int cover, int minute) {
    if (!bed.hasCover(cover) || !isMinute(minute)) {
      return VOID;
    }
    playTo(minute);
    return night.lie.left[cover];
  }

  public int sleeps(int sleeper, int minute, int what) {
    if (!bed.hasSleeper(sleeper) || !isMinute(minute)) {
      return VOID;
    }
    if (what < 0 || what > 3) {
      return VOID;
    }
    playTo(minute);
    int warm = night.warmOf(sleeper, minute);
    switch (what) {
      case 0:
        return night.lie.place[sleeper];
      case 1:
        return night.lie.covered[sleeper];
      case 2:
        return warm;
      default:
        return bed.isEasy(sleeper, warm) ? 1 : 0;
    }
  }

  public int minutes(int sleeper, int what) {
    if (!bed.hasSleeper(sleeper) || what < 0 || what > 2) {
      return BAD;
    }
    playTo(LAST_MINUTE);
    switch (what) {
      case 0:
        return night.tally.easy[sleeper];
      case 1:
        return night.tally.cold[sleeper];
      default:
        return night.tally.bare[sleeper];
    }
  }

  public int wakes(int sleeper, int what) {
    if (!bed.hasSleeper(sleeper) || what < 0 || what > 1) {
      return VOID;
    }
    playTo(LAST_MINUTE);
    return what == 0 ? night.tally.wokenAt[sleeper] : night.tally.wokenBy[sleeper];
  }

  public int took(int sc) {
    if (sc < 0 || !bed.hasSleeper(sc / 10) || !bed.hasCover(sc % 10)) {
      return VOID;
    }
    playTo(LAST_MINUTE);
    return night.drew[(sc / 10) * COVERS + sc % 10];
  }

  private static boolean isMinute(int minute) {
    return minute >= 0 && minute <= LAST_MINUTE;
  }

  private void playTo(int minute) {
    night.begin(inForce, bed.place);
    night.play(minute);
  }

  // ---- in thought

  public int broad(int cover, int minute) {
    if (!bed.hasCover(cover) || !isMinute(minute)) {
      return BAD;
    }
    int was = bed.width[cover];
    int found = NOT;
    for (int width = LEAST_WIDTH; width <= MOST_WIDTH && found == NOT; width++) {
      bed.width[cover] = width;
      playTo(minute);
      if (night.lie.isNoneBare()) {
        found = width;
      }
    }
    bed.width[cover] = was;
    return found;
  }

  public int tucked(int cover, int what) {
    if (!bed.hasCover(cover) || what < 0 || what > 1) {
      return BAD;
    }
    int was = bed.tuck[cover];
    int best = 0;
    int most = -1;
    for (int tuck = 0; tuck <= MOST_TUCK; tuck++) {
      bed.tuck[cover] = tuck;
      playTo(LAST_MINUTE);
      int easy = night.tally.easyOfAll(bed.sleepers);
      if (easy > most) {
        most = easy;
        best = tuck;
      }
    }
    bed.tuck[cover] = was;
    return what == 0 ? best : most;
  }

  public int window(int what) {
    if (what < 0 || what > 1 || bed.sleepers == 0) {
      return VOID;
    }
    int best = 0;
    int most = -1;
    for (int more = -9; more <= 9; more++) {
      night.begin(inForce, bed.place);
      night.moreDegrees = more;
      night.play(LAST_MINUTE);
      int least = night.tally.leastEasy(bed.sleepers);
      if (least > most) {
        most = least;
        best = more;
      }
    }
    return what == 0 ? best : most;
  }

  public int across(int what) {
    if (what < 0 || what > 1) {
      return BAD;
    }
    int n = bed.sleepers;
    if (n == 0) {
      return STATE;
    }
    for (int i = 0; i < n; i++) {
      order[i] = i;
    }
    int best = 0;
    int most = -1;
    boolean more = true;
    for (int k = 0; k < ORDERS && more; k++) {
      bed.laySideBySide(order, sideBySide);
      night.begin(inForce, sideBySide);
      night.play(LAST_MINUTE);
      int least = night.tally.leastEasy(n);
      if (least > most) {
        most = least;
        best = orderAsDigits(n);
      }
      more = goToNextOrder(n);
    }
    return what == 0 ? best : most;
  }

  private int orderAsDigits(int n) {
    int digits = 0;
    for (int i = 0; i < n; i++) {
      digits = digits * 10 + order[i] + 1;
    }
    return digits;
  }

  private boolean goToNextOrder(int n) {
    int i = n - 2;
    while (i >= 0 && order[i] > order[i + 1]) {
      i--;
    }
    if (i < 0) {
      return false;
    }
    int j = n - 1;
    while (j > i && order[j] < order[i]) {
      j--;
    }
    swapInOrder(i, j);
    for (int a = i + 1, b = n - 1; a < b; a++, b--) {
      swapInOrder(a, b);
    }
    return true;
  }

  private void swapInOrder(int i, int j) {
    int held = order[i];
    order[i] = order[j];
    order[j] = held;
  }

  public int drawn(int seed, int nh, int number, int what) {
    int nights = nh / 1000;
    int odds = nh % 1000;
    if (nh < 0 || nights < 1 || nights > 20 || odds > 100 || what < 0 || what > 1) {
      return VOID;
    }
    boolean there = what == 0 ? bed.hasSleeper(number) : bed.hasCover(number);
    if (!there) {
      return VOID;
    }
    int sum = 0;
    int dice = seed;
    for (int k = 0; k < nights; k++) {
      night.begin(inForce, bed.place);
      night.drawTurns(dice, odds);
      night.play(LAST_MINUTE);
      dice = night.dice;
      sum += what == 0 ? night.tally.easy[number] : night.lie.left[number];
    }
    return sum / nights;
  }

  public int morning(int cover, int left, int what) {
    if (!bed.hasCover(cover) || left < -99 || left > 99 || what < 0 || what > 1) {
      return BAD;
    }
    if (bed.sleepers == 0) {
      return STATE;
    }
    int best = 0;
    int nearest = 0;
    for (int s = 0; s < bed.sleepers; s++) {
      night.begin(inForce, bed.place);
      night.only = s;
      night.play(LAST_MINUTE);
      int off = Math.abs(night.lie.left[cover] - left);
      if (s == 0 || off < nearest) {
        nearest = off;
        best = s;
      }
    }
    return what == 0 ? best : nearest;
  }

  public int film(int shelf) {
    if (!hasShelf(shelf)) {
      return BAD;
    }
    Shelf frames = shelves[shelf];
    if (frames.isEmpty()) {
      return NOTHING_THERE;
    }
    if (!frames.isRowOf(SHORTS)) {
      return OTHER_KIND;
    }
    if (frames.size < FRAMES) {
      return NO_PLACE;
    }
    if (bed.covers == 0) {
      return STATE;
    }
    int bits = 0;
    for (int law = NO_LAW; law < lawCount; law++) {
      if (isFilmOf(law, frames)) {
        bits |= 1 << (law + 1);
      }
    }
    return bits;
  }

  private boolean isFilmOf(int law, Shelf frames) {
    night.begin(law, bed.place);
    for (int i = 0; i < FRAMES; i++) {
      night.play(Math.min(60 * i, LAST_MINUTE));
      if (night.lie.left[0] != frames.elements[i]) {
        return false;
      }
    }
    return true;
  }

  public int undo() {
    if (changes.done == 0) {
      return STATE;
    }
    changes.takeBack(bed);
    return changes.done;
  }

  public int redo() {
    if (changes.done == changes.known) {
      return STATE;
    }
    changes.doAgain(bed);
    return changes.known - changes.done;
  }

  // ---- acts, shelves

  public int body(int kind) {
    if (!isKind(kind)) {
      return BAD;
    }
    if (bodies.count >= Bodies.MOST) {
      return FULL;
    }
    return bodies.add(kind);
  }

  public int act(int body, int act, int x) {
    return bodies.runFirst(body, act, x);
  }

  public int trace(int i) {
    if (i < 0 || i >= Bodies.TRACED || i >= bodies.ran) {
      return BAD;
    }
    return bodies.traced[i];
  }

  public int keep(int shelf, int body) {
    if (!hasShelf(shelf) || body < -1 || body >= bodies.count) {
      return BAD;
    }
    if (body == -1) {
      shelves[shelf].holdNothing();
    } else {
      shelves[shelf].holdBody(body);
    }
    return 1;
  }

  public int row(int shelf, int sort, int n) {
    if (!hasShelf(shelf) || sort < 0 || sort > BOOLEANS || n > ROW_LENGTH) {
      return BAD;
    }
    if (n < 0) {
      return BELOW_ZERO;
    }
    shelves[shelf].holdRow(sort, n);
    return 1;
  }

  public int put(int shelf, int i, long v) {
    int refusal = refusalOfPlace(shelf, i);
    if (refusal != 0) {
      return refusal;
    }
    shelves[shelf].set(i, v);
    return 1;
  }

  public long element(int shelf, int i) {
    if (refusalOfPlace(shelf, i) != 0) {
      return Long.MIN_VALUE;
    }
    return shelves[shelf].elements[i];
  }

  private int refusalOfPlace(int shelf, int i) {
    if (!hasShelf(shelf)) {
      return BAD;
    }
    Shelf held = shelves[shelf];
    if (held.isEmpty()) {
      return NOTHING_THERE;
    }
    if (!held.isRow()) {
      return OTHER_KIND;
    }
    return i < 0 || i >= held.size ? NO_PLACE : 0;
  }

  public int shift(int shelf, int i, int other, int j, int n) {
    if (!hasShelf(shelf) || !hasShelf(other)) {
      return BAD;
    }
    Shelf from = shelves[shelf];
    Shelf to = shelves[other];
    if (from.isEmpty() || to.isEmpty()) {
      return NOTHING_THERE;
    }
    if (!from.isRow() || !to.isRowOf(from.sort)) {
      return OTHER_KIND;
    }
    if (!from.hasPlaces(i, n) || !to.hasPlaces(j, n)) {
      return NO_PLACE;
    }
    System.arraycopy(from.elements, i, to.elements, j, n);
    return n;
  }

  public int taken(int shelf, int k) {
    if (!hasShelf(shelf) || !isKind(k)) {
      return BAD;
    }
    Shelf held = shelves[shelf];
    if (held.isEmpty()) {
      return NOTHING_THERE;
    }
    if (!held.isBody() || !Bodies.isUnder(bodies.kinds[held.body], k)) {
      return OTHER_KIND;
    }
    return bodies.kinds[held.body];
  }

  public int count(int what) {
    switch (what) {
      case 0:
        return bed.sleepers;
      case 1:
        return bed.covers;
      case 2:
        return turns.count;
      case 3:
        return lawCount;
      case 4:
        return tape.length;
      case 5:
        return changes.done;
      case 6:
        return bodies.count;
      case 7:
        return bodies.ran;
      default:
        return BAD;
    }
  }

  private static boolean hasShelf(int shelf) {
    return shelf >= 0 && shelf < SHELVES;
  }

  private static boolean isKind(int kind) {
    return kind >= 0 && kind < KINDS;
  }

  /** The bed as it is told: its cells, who lies in it, what covers there are. */
  private static final class Bed {
    int cells = 40;
    int sleepers;
    int covers;
    final int[] place = new int[SLEEPERS];
    final int[] breadth = new int[SLEEPERS];
    final int[] want = new int[SLEEPERS];
    final int[] heat = new int[SLEEPERS];
    final int[] left = new int[COVERS];
    final int[] width = new int[COVERS];
    final int[] warmth = new int[COVERS];
    final int[] tuck = new int[COVERS];

    boolean hasSleeper(int s) {
      return s >= 0 && s < sleepers;
    }

    boolean hasCover(int c) {
      return c >= 0 && c < covers;
    }

    int addSleeper(int itsPlace, int itsBreadth, int itsWant, int itsHeat) {
      place[sleepers] = itsPlace;
      breadth[sleepers] = itsBreadth;
      want[sleepers] = itsWant;
      heat[sleepers] = itsHeat;
      sleepers++;
      return sleepers - 1;
    }

    int addCover(int itsLeft, int itsWidth, int itsWarmth, int itsTuck) {
      left[covers] = itsLeft;
      width[covers] = itsWidth;
      warmth[covers] = itsWarmth;
      tuck[covers] = itsTuck;
      covers++;
      return covers - 1;
    }

    /** The values that mend() changes: 0 WANT, 1 HEAT, 2 WIDTH, 3 TUCK. */
    int[] mendable(int what) {
      switch (what) {
        case 0:
          return want;
        case 1:
          return heat;
        case 2:
          return width;
        default:
          return tuck;
      }
    }

    int ofSleeper(int s, int what) {
      switch (what) {
        case 0:
          return place[s];
        case 1:
          return breadth[s];
        case 2:
          return want[s];
        default:
          return heat[s];
      }
    }

    int ofCover(int c, int what) {
      switch (what) {
        case 0:
          return left[c];
        case 1:
          return width[c];
        case 2:
          return warmth[c];
        default:
          return tuck[c];
      }
    }

    boolean isEasy(int s, int warm) {
      return warm >= want[s] - 5 && warm <= want[s] + 5;
    }

    boolean isCold(int s, int warm) {
      return warm < want[s] - 15;
    }

    /** What a sleeper gets of a whole with so many of the own cells under a cover (cut). */
    int partOf(int s, int whole, int under) {
      return breadth[s] == 0 ? 0 : whole * under / breadth[s];
    }

    int heldWithin(int s, int itsPlace) {
      return Math.max(0, Math.min(cells - breadth[s], itsPlace));
    }

    void laySideBySide(int[] order, int[] places) {
      int cell = 0;
      for (int i = 0; i < sleepers; i++) {
        int s = order[i];
        places[s] = heldWithin(s, cell);
        cell += breadth[s];
      }
    }

    /** A bit for each cell of the bed from one on, as many as told, those beyond the bed left out. */
    long bitsOf(int from, int many) {
      int first = Math.max(0, Math.min(cells, from));
      int end = Math.max(first, Math.min(cells, from + many));
      return ((1L << (end - first)) - 1) << first;
    }
  }

  /** The turns in the order in which they came, and the order in which a night does them. */
  private static final class Turns {
    int count;
    final int[] minute = new int[TURNS];
    final int[] sleeper = new int[TURNS];
    final int[] cells = new int[TURNS];
    final int[] byMinute = new int[TURNS];

    static boolean mayBe(int minute, int sleeper, int cells) {
      return isMinute(minute) && sleeper >= 0 && sleeper < SLEEPERS
          && cells >= -20 && cells <= 20 && cells != 0;
    }

    boolean has(int k) {
      return k >= 0 && k < count;
    }

    int add(int itsMinute, int itsSleeper, int itsCells) {
      minute[count] = itsMinute;
      sleeper[count] = itsSleeper;
      cells[count] = itsCells;
      int at = count;
      for (; at > 0 && minute[byMinute[at - 1]] > itsMinute; at--) {
        byMinute[at] = byMinute[at - 1];
      }
      byMinute[at] = count;
      count++;
      return count - 1;
    }

    int ofTurn(int k, int what) {
      switch (what) {
        case 0:
          return minute[k];
        case 1:
          return sleeper[k];
        default:
          return cells[k];
      }
    }
  }

  /** A text as codes in the order in which they are worked out, values ahead of what is done with them. */
  private static final class Text {
    static final String NAMES = "tuwksbmh";
    static final int MINUTE = 6, HOUR = 7;
    /** Codes 0 .. 9999 are numbers; a SKIP or NAME has its target or place on top; below 0 is a sign. */
    static final int SKIP = 10000, NAME = 20000;
    static final int LINE_END = ';', NEGATE = '~';
    // each byte gives one code at most, and the end of the text one more
    static final int MOST_CODES = TAPE_BYTES + 1;

    int size;
    final int[] codes = new int[MOST_CODES];
    final int[] stack = new int[MOST_CODES + 1];

    void add(int code) {
      if (size < MOST_CODES) {
        codes[size] = code;
        size++;
      }
    }

    /** A skip that was put at a place leads behind all that is here now. */
    void skipToEnd(int place) {
      if (place >= 0 && place < size) {
        codes[place] = SKIP + size;
      }
    }

    void become(Text other) {
      System.arraycopy(other.codes, 0, codes, 0, MOST_CODES);
      size = other.size;
    }

    int worth(int[] names) {
      int top = 0;
      int next = 0;
      for (int i = 0; i < size; i++) {
        int code = codes[i];
        if (i < next) {
          continue;
        }
        if (code >= NAME) {
          stack[top] = names[code - NAME];
          top++;
        } else if (code >= SKIP) {
          top = 0;
          next = stack[0] == 0 ? code - SKIP : 0;
        } else if (code >= 0) {
          stack[top] = code;
          top++;
        } else if (code == -LINE_END) {
          return stack[0];
        } else if (code == -NEGATE || code == -'!') {
          int at = Math.max(0, top - 1);
          stack[at] = code == -NEGATE ? -stack[at] : stack[at] == 0 ? 1 : 0;
        } else {
          top = Math.max(1, top - 1);
          stack[top - 1] = worthOfTwo(-code, stack[top - 1], stack[top]);
        }
      }
      return 0;
    }

    private static int worthOfTwo(int sign, int a, int b) {
      switch (sign) {
        case '|':
          return a != 0 || b != 0 ? 1 : 0;
        case '&':
          return a != 0 && b != 0 ? 1 : 0;
        case '<':
          return a < b ? 1 : 0;
        case '=':
          return a == b ? 1 : 0;
        case '>':
          return a > b ? 1 : 0;
        case '+':
          return a + b;
        case '-':
          return a - b;
        case '*':
          return a * b;
        case '/':
          return b == 0 ? 0 : a / b;
        default:
          return b == 0 ? 0 : a % b;
      }
    }
  }

  /** The tape, and how it is read; reading stops at the first byte with which no text goes on. */
  private static final class Tape {
    private static final int MOST_OPEN = 6, NO_FAULT = -1;
    private static final int COMPARING = 2, LEVELS = 5;

    int length;
    /** What was read last. */
    final Text text = new Text();
    private final int[] bytes = new int[TAPE_BYTES];
    private int at;
    private int fault;

    void add(int letter) {
      if (length < TAPE_BYTES) {
        bytes[length] = letter;
        length++;
      }
    }

    /** Reads all and empties the tape: the place of the fault, or -1. */
    int readAll() {
      at = 0;
      fault = NO_FAULT;
      text.size = 0;
      readLine();
      for (int i = 0; i < TAPE_BYTES && takes(';'); i++) {
        readLine();
      }
      if (at < length) {
        fail();
      }
      length = 0;
      return fault;
    }

    private void readLine() {
      readLevel(0, 0);
      if (takes('?')) {
        int skip = text.size;
        text.add(Text.SKIP);
        readLevel(0, 0);
        text.add(-Text.LINE_END);
        text.skipToEnd(skip);
      } else {
        text.add(-Text.LINE_END);
      }
    }

    /** The signs of a level, those that bind least first. */
    private static String signsOf(int level) {
      switch (level) {
        case 0:
          return "|";
        case 1:
          return "&";
        case COMPARING:
          return "<=>";
        case 3:
          return "+-";
        default:
          return "*/%";
      }
    }

    private void readLevel(int level, int open) {
      if (level >= LEVELS) {
        readOperand(open);
        return;
      }
      readLevel(level + 1, open);
      int sign = takesOneOf(signsOf(level));
      for (int i = 0; i < TAPE_BYTES && sign != 0; i++) {
        readLevel(level + 1, open);
        text.add(-sign);
        sign = level == COMPARING ? 0 : takesOneOf(signsOf(level));
      }
    }

    private void readOperand(int open) {
      int name = placeIn(Text.NAMES, peek());
      if (isDigit(peek())) {
        readNumber();
      } else if (name >= 0) {
        at++;
        text.add(Text.NAME + name);
      } else if (open >= MOST_OPEN) {
        fail();
      } else if (takes('(')) {
        readLevel(0, open + 1);
        if (!takes(')')) {
          fail();
        }
      } else if (takes('!')) {
        readOperand(open + 1);
        text.add(-'!');
      } else if (takes('-')) {
        readOperand(open + 1);
        text.add(-Text.NEGATE);
      } else {
        fail();
      }
    }

    private void readNumber() {
      int number = 0;
      for (int i = 0; i < 4 && isDigit(peek()); i++) {
        number = number * 10 + peek() - '0';
        at++;
      }
      text.add(number);
    }

    private static boolean isDigit(int sign) {
      return sign >= '0' && sign <= '9';
    }

    private static int placeIn(String signs, int sign) {
      return sign < 0 ? -1 : signs.indexOf((char) sign);
    }

    /** The byte that is next; below 0 at the end and behind a fault. */
    private int peek() {
      return fault == NO_FAULT && at < length ? bytes[at] : -1;
    }

    private boolean takes(int sign) {
      if (peek() != sign) {
        return false;
      }
      at++;
      return true;
    }

    private int takesOneOf(String signs) {
      int sign = peek();
      if (placeIn(signs, sign) < 0) {
        return 0;
      }
      at++;
      return sign;
    }

    private void fail() {
      if (fault == NO_FAULT) {
        fault = at;
      }
    }
  }

  /** How warm the room is in each minute. */
  private static final class Room {
    final int[] degrees = new int[MINUTES];
    /** The first minute behind one that has other degrees. */
    final int[] sameTill = new int[MINUTES];
    private final int[] names = new int[Text.NAMES.length()];

    Room() {
      Arrays.fill(degrees, 10);
      Arrays.fill(sameTill, MINUTES);
    }

    void warmBy(Text text) {
      for (int m = 0; m < MINUTES; m++) {
        names[Text.MINUTE] = m;
        names[Text.HOUR] = m / 60;
        degrees[m] = Math.max(-50, Math.min(50, text.worth(names)));
      }
      for (int m = LAST_MINUTE; m >= 0; m--) {
        boolean goesOn = m < LAST_MINUTE && degrees[m] == degrees[m + 1];
        sameTill[m] = goesOn ? sameTill[m + 1] : m + 1;
      }
    }
  }

  /** What a night brings to each sleeper. */
  private static final class Tally {
    private static final int COLD_WAKES = 10;

    final int[] easy = new int[SLEEPERS];
    final int[] cold = new int[SLEEPERS];
    final int[] bare = new int[SLEEPERS];
    final int[] wokenAt = new int[SLEEPERS];
    final int[] wokenBy = new int[SLEEPERS];
    private final int[] coldInARow = new int[SLEEPERS];

    void begin() {
      Arrays.fill(easy, 0);
      Arrays.fill(cold, 0);
      Arrays.fill(bare, 0);
      Arrays.fill(wokenAt, NOT);
      Arrays.fill(wokenBy, NOT);
      Arrays.fill(coldInARow, 0);
    }

    void wake(int s, int minute, int by) {
      if (wokenAt[s] == NOT) {
        wokenAt[s] = minute;
        wokenBy[s] = by;
      }
    }

    /** Minutes from one on, cold or not all alike. */
    void addCold(int s, boolean isCold, int minute, int many) {
      if (!isCold) {
        coldInARow[s] = 0;
        return;
      }
      cold[s] += many;
      if (coldInARow[s] + many >= COLD_WAKES) {
        wake(s, minute + COLD_WAKES - 1 - coldInARow[s], NO_ONE);
      }
      coldInARow[s] += many;
    }

    int easyOfAll(int sleepers) {
      int sum = 0;
      for (int s = 0; s < sleepers; s++) {
        sum += easy[s];
      }
      return sum;
    }

    int leastEasy(int sleepers) {
      int least = MINUTES;
      for (int s = 0; s < sleepers; s++) {
        least = Math.min(least, easy[s]);
      }
      return least;
    }
  }

  /** Where all lie at one time of a night, each with a bit for every cell that it lies over. */
  private static final class Lie {
    private final Bed bed;
    final int[] place = new int[SLEEPERS];
    final int[] covered = new int[SLEEPERS];
    /** What is warm about a sleeper beside the room. */
    final int[] ownWarm = new int[SLEEPERS];
    final int[] left = new int[COVERS];
    private final long[] sleeperBits = new long[SLEEPERS];
    private final long[] coverBits = new long[COVERS];

    Lie(Bed itsBed) {
      bed = itsBed;
    }

    void begin(int[] places) {
      for (int c = 0; c < bed.covers; c++) {
        left[c] = bed.left[c];
        moveCover(c, 0);
      }
      long covers = allCovers();
      for (int s = 0; s < bed.sleepers; s++) {
        place[s] = places[s];
        moveSleeper(s, 0);
        coverAnew(s, covers);
      }
      feelWarmth();
    }

    void moveCover(int c, int by) {
      left[c] += by;
      coverBits[c] = bed.bitsOf(left[c], bed.width[c]);
    }

    void moveSleeper(int s, int by) {
      place[s] = bed.heldWithin(s, place[s] + by);
      sleeperBits[s] = bed.bitsOf(place[s], bed.breadth[s]);
    }

    long allCovers() {
      long bits = 0;
      for (int c = 0; c < bed.covers; c++) {
        bits |= coverBits[c];
      }
      return bits;
    }

    /** How many cells fewer than before the covers lie over. */
    int coverAnew(int s, long covers) {
      int were = covered[s];
      covered[s] = Long.bitCount(sleeperBits[s] & covers);
      return were - covered[s];
    }

    int underOf(int s, int c) {
      return Long.bitCount(sleeperBits[s] & coverBits[c]);
    }

    void feelWarmth() {
      for (int s = 0; s < bed.sleepers; s++) {
        int warm = bed.heat[s];
        for (int c = 0; c < bed.covers; c++) {
          warm += bed.partOf(s, bed.warmth[c], underOf(s, c));
        }
        ownWarm[s] = warm;
      }
    }

    boolean isBare(int s) {
      return covered[s] < bed.breadth[s];
    }

    boolean isNoneBare() {
      for (int s = 0; s < bed.sleepers; s++) {
        if (isBare(s)) {
          return false;
        }
      }
      return true;
    }
  }

  /** One night, played minute by minute from where all lie. */
  private static final class Night {
    private final Bed bed;
    private final Turns turns;
    private final Room room;
    private final Text[] laws;
    final Lie lie;
    final Tally tally = new Tally();
    /** By how many cells a cover has moved in a sleeper's turns, a row of covers for each sleeper. */
    final int[] drew = new int[SLEEPERS * COVERS];
    private final int[] lastWay = new int[SLEEPERS];
    private final int[] pull = new int[COVERS];
    private final int[] names = new int[Text.NAMES.length()];
    private int law;
    private int next;
    private int nextTurn;
    int moreDegrees;
    int only;
    int dice;
    /** Below 0: the told turns are done, none are drawn. */
    private int odds;

    Night(Bed itsBed, Turns itsTurns, Room itsRoom, Text[] itsLaws) {
      bed = itsBed;
      turns = itsTurns;
      room = itsRoom;
      laws = itsLaws;
      lie = new Lie(itsBed);
    }

    void begin(int itsLaw, int[] places) {
      lie.begin(places);
      Arrays.fill(drew, 0);
      Arrays.fill(lastWay, 0);
      tally.begin();
      law = itsLaw;
      next = 0;
      nextTurn = 0;
      moreDegrees = 0;
      only = NO_ONE;
      odds = -1;
    }

    void drawTurns(int seed, int itsOdds) {
      dice = seed;
      odds = itsOdds;
    }

    /** Goes on from the minute that is next to the last one told, that one too. */
    void play(int last) {
      for (int step = 0; step < MINUTES && next <= last; step++) {
        int minute = next;
        if (odds < 0) {
          doTold(minute);
        } else if (minute % 10 == 0) {
          doDrawn(minute);
        }
        next = Math.min(last + 1, Math.min(room.sameTill[minute], minuteOfTurns(minute)));
        for (int s = 0; s < bed.sleepers; s++) {
          countIn(s, minute, next - minute);
        }
      }
    }

    /** The next minute that may have turns. */
    private int minuteOfTurns(int minute) {
      if (odds >= 0) {
        return minute - minute % 10 + 10;
      }
      return nextTurn < turns.count ? turns.minute[turns.byMinute[nextTurn]] : MINUTES;
    }

    private void doTold(int minute) {
      int first = nextTurn;
      for (; nextTurn < turns.count; nextTurn++) {
        int k = turns.byMinute[nextTurn];
        if (turns.minute[k] != minute) {
          break;
        }
        int s = turns.sleeper[k];
        if (bed.hasSleeper(s) && (only == NO_ONE || only == s)) {
          turnOver(s, turns.cells[k], minute);
        }
      }
      if (nextTurn > first) {
        lie.feelWarmth();
      }
    }

    private void doDrawn(int minute) {
      for (int s = 0; s < bed.sleepers; s++) {
        if (roll() % 100 < odds) {
          int cells = roll() % 21 - 10;
          if (cells != 0) {
            turnOver(s, cells, minute);
          }
        }
      }
      lie.feelWarmth();
    }

    private int roll() {
      dice = dice * 1103515245 + 12345;
      return dice >>> 8;
    }

    private void turnOver(int s, int cells, int minute) {
      int way = cells < 0 ? -1 : 1;
      for (int c = 0; c < bed.covers; c++) {
        pull[c] = way * pullOf(s, c, cells, minute);
      }
      for (int c = 0; c < bed.covers; c++) {
        lie.moveCover(c, pull[c]);
        drew[s * COVERS + c] += pull[c];
      }
      lie.moveSleeper(s, cells);
      lastWay[s] = way;
      long covers = lie.allCovers();
      for (int i = 0; i < bed.sleepers; i++) {
        int lost = lie.coverAnew(i, covers);
        if (i != s && 2 * lost >= bed.breadth[i]) {
          tally.wake(i, minute, s);
        }
      }
    }

    /** By how many cells a cover is drawn by one who turns. */
    private int pullOf(int s, int c, int cells, int minute) {
      int under = lie.underOf(s, c);
      if (under == 0) {
        return 0;
      }
      int by = Math.abs(cells);
      int back = lastWay[s] * cells < 0 ? 1 : 0;
      if (law < 0 || law >= LAWS) {
        return back == 1 ? 0 : Math.max(0, bed.partOf(s, by, under) - bed.tuck[c]);
      }
      names[0] = by;
      names[1] = under;
      names[2] = bed.width[c];
      names[3] = bed.tuck[c];
      names[4] = s;
      names[5] = back;
      names[Text.MINUTE] = minute;
      names[Text.HOUR] = minute / 60;
      return Math.max(0, Math.min(by, laws[law].worth(names)));
    }

    int warmOf(int s, int minute) {
      return room.degrees[minute] + moreDegrees + lie.ownWarm[s];
    }

    private void countIn(int s, int minute, int many) {
      int warm = warmOf(s, minute);
      if (bed.isEasy(s, warm)) {
        tally.easy[s] += many;
      }
      if (lie.isBare(s)) {
        tally.bare[s] += many;
      }
      tally.addCold(s, bed.isCold(s, warm), minute, many);
    }
  }

  /** What was mended, the oldest first; those from done on are undone. */
  private static final class Changes {
    private static final int MOST = 40;

    int done;
    int known;
    private final int[] number = new int[MOST];
    private final int[] what = new int[MOST];
    private final int[] was = new int[MOST];
    private final int[] became = new int[MOST];

    void add(int itsNumber, int itsWhat, int itWas, int itBecame) {
      if (done >= MOST) {
        forgetOldest();
      }
      number[done] = itsNumber;
      what[done] = itsWhat;
      was[done] = itWas;
      became[done] = itBecame;
      done++;
      known = done;
    }

    private void forgetOldest() {
      System.arraycopy(number, 1, number, 0, MOST - 1);
      System.arraycopy(what, 1, what, 0, MOST - 1);
      System.arraycopy(was, 1, was, 0, MOST - 1);
      System.arraycopy(became, 1, became, 0, MOST - 1);
      done = MOST - 1;
    }

    void takeBack(Bed bed) {
      if (done > 0) {
        done--;
        bed.mendable(what[done])[number[done]] = was[done];
      }
    }

    void doAgain(Bed bed) {
      if (done < known) {
        bed.mendable(what[done])[number[done]] = became[done];
        done++;
      }
    }
  }

  /** Bodies of acts by kinds, and which of them ran. */
  private static final class Bodies {
    static final int MOST = 50, TRACED = 24;
    private static final int TURNING = 0, DRAWING = 1, WARMING = 2, WAKING = 3;
    private static final int DEEPEST = 40;
    private static final int[] ABOVE = {-1, 0, 0, 2, 1, 4, 0, 6};
    /** Of each kind the bodies of its four acts; 0: it has none of its own. */
    private static final int[] OWN = {
      1, 10, 11, 2,
      20, 0, 0, 0,
      0, 30, 0, 0,
      0, 41, 40, 0,
      0, 0, 0, 50,
      0, 0, 60, 61,
      70, 0, 0, 0,
      81, 80, 0, 0,
    };

    int count;
    int ran;
    final int[] kinds = new int[MOST];
    final int[] traced = new int[TRACED];

    private boolean has(int n) {
      return n >= 0 && n < count;
    }

    int add(int kind) {
      kinds[count] = kind;
      count++;
      return count - 1;
    }

    static boolean isUnder(int kind, int k) {
      int at = kind;
      for (int i = 0; i < KINDS && at >= 0; i++) {
        if (at == k) {
          return true;
        }
        at = ABOVE[at];
      }
      return false;
    }

    /** The kind from one on upward that has a body of the act; -1 if none has. */
    private static int kindThatHas(int act, int from) {
      int at = from;
      for (int i = 0; i < KINDS && at >= 0; i++) {
        if (OWN[at * ACTS + act] != 0) {
          return at;
        }
        at = ABOVE[at];
      }
      return -1;
    }

    private void begins(int number) {
      if (ran < TRACED) {
        traced[ran] = number;
      }
      ran++;
    }

    /** An act as the body's own kind has it; nothing ran if there is no such body or act. */
    int runFirst(int n, int act, int x) {
      ran = 0;
      if (!has(n) || act < 0 || act >= ACTS) {
        return 0;
      }
      return run(n, act, kinds[n], x, 0);
    }

    /** Runs an act of body n by the nearest kind from one on upward. */
    private int run(int n, int act, int from, int x, int depth) {
      int kind = kindThatHas(act, from);
      if (kind < 0 || depth > DEEPEST) {
        return 0;
      }
      int number = OWN[kind * ACTS + act];
      begins(number);
      int above = ABOVE[kind];
      int own = kinds[n];
      int deeper = depth + 1;
      switch (number) {
        case 1:
          return x + n;
        case 2:
          return run(n, DRAWING, own, x, deeper) - run(n, WARMING, own, 1, deeper);
        case 10:
          return run(n, TURNING, own, x, deeper) * 2;
        case 11:
          return x ^ n;
        case 20:
          return run(n, TURNING, above, x, deeper) + 3;
        case 30:
          return -run(n, DRAWING, above, x, deeper);
        case 40:
          return run(n, WARMING, above, x, deeper) * 3;
        case 41:
          return run(n, DRAWING, above, x + 1, deeper);
        case 50:
          return run(n, WAKING, above, x, deeper) ^ 5;
        case 60:
          return run(n, WARMING, above, x, deeper) - run(n, TURNING, own, 2, deeper);
        case 61:
          return run(n, WAKING, above, x, deeper) + 1;
        case 70:
          return run(n, TURNING, above, x, deeper) * 2;
        case 80:
          return run(n, DRAWING, above, x, deeper) + run(n, WARMING, own, 2, deeper);
        case 81:
          return run(n, TURNING, above, x, deeper) - 1;
        default:
          return 0;
      }
    }
  }

  /** Holds nothing, a body, or a row. */
  private static final class Shelf {
    private static final int EMPTY = 0, BODY = 1, ROW = 2;

    private int holds = EMPTY;
    int body;
    int sort;
    int size;
    final long[] elements = new long[ROW_LENGTH];

    boolean isEmpty() {
      return holds == EMPTY;
    }

    boolean isBody() {
      return holds == BODY;
    }

    boolean isRow() {
      return holds == ROW;
    }

    boolean isRowOf(int itsSort) {
      return holds == ROW && sort == itsSort;
    }

    void holdNothing() {
      holds = EMPTY;
    }

    void holdBody(int number) {
      holds = BODY;
      body = number;
    }

    void holdRow(int itsSort, int n) {
      holds = ROW;
      sort = itsSort;
      size = n;
      Arrays.fill(elements, 0);
    }

    boolean hasPlaces(int i, int n) {
      return i >= 0 && n >= 0 && n <= size && i <= size - n;
    }

    void set(int i, long v) {
      switch (sort) {
        case 0:
          elements[i] = (byte) v;
          break;
        case 1:
          elements[i] = (short) v;
          break;
        case 2:
          elements[i] = (int) v;
          break;
        case 3:
          elements[i] = v;
          break;
        default:
          elements[i] = v != 0 ? 1 : 0;
          break;
      }
    }
  }
}
