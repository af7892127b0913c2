/** The bounds of the bed: Terms 1 (its first paragraph), the changes of Terms 3, promises 1 to 6, 10, 26, 27. */
public final class EdgeBedTest {
  private static final int LEAST = Integer.MIN_VALUE, MOST = Integer.MAX_VALUE;

  public static void main(String[] args) {
    newObject();
    wideBounds();
    wideWithSleepers();
    placeBounds();
    withinWideThen();
    breadthBounds();
    wantAndHeatBounds();
    sleepersFull();
    leftBounds();
    widthBounds();
    warmthBounds();
    tuckBounds();
    coversFull();
    mendBounds();
    mendOfWhom();
    mendAnswersWhatWas();
    ofWhom();
    ofWhat();
    undoneNoneOneForty();
    doneAgainNoneOneForty();
    latestFirst();
    noOtherBehind();
    anotherBehindForty();
    oldestGoFirst();
    Due.end();
  }

  /** "An empty bed.", "40 at first", "none (-1, at first)", "without a text 10", "each hold nothing (at first)". */
  private static void newObject() {
    Twins.Story none = x -> { };
    Twins.alike("of", none, x -> x.of(0, 0), OneBlanket.VOID);
    OneBlanket x = new OneBlanket();
    for (int what = 0; what <= 7; what++) {
      Due.is("count " + what, x.count(what), 0);
    }
    for (int shelf = 0; shelf <= 5; shelf++) {
      Due.is("shelf " + shelf, x.taken(shelf, 0), -11);
      Due.is("element of shelf " + shelf, x.element(shelf, 0), Long.MIN_VALUE);
    }
    Due.is("clear", x.clear(), 0);
    Due.is("undo", x.undo(), -5);
    Due.is("redo", x.redo(), -5);
    Due.is("trace", x.trace(0), -1);
    Due.is("in force", x.force(-1), -1);
    Due.is("wide", x.wide(60), 40);
    x.sleeper(4, 0);
    Due.is("degrees", x.sleeps(0, 0, 2), 10);
    Due.is("degrees to the end", x.sleeps(0, 479, 2), 10);
  }

  /** "WIDE cells (20 .. 60 ..": how wide it was. */
  private static void wideBounds() {
    for (int cells : new int[] {20, 21, 40, 59, 60}) {
      OneBlanket x = new OneBlanket();
      Due.is("wide " + cells, x.wide(cells), 40);
      Due.is("it was " + cells, x.wide(30), cells);
    }
    for (int cells : new int[] {19, 61, 0, -1, -20, -40, 256 + 40, LEAST, MOST}) {
      Twins.alike("wide " + cells, x -> x.wide(33), x -> x.wide(cells), -1);
      OneBlanket x = new OneBlanket();
      x.wide(cells);
      Due.is("it stays behind " + cells, x.wide(20), 40);
    }
  }

  /** "STATE: there are SLEEPERS." */
  private static void wideWithSleepers() {
    OneBlanket x = new OneBlanket();
    x.cover(0, 500, 0);
    x.turn(0, 0, 1);
    x.body(0);
    Due.is("covers and turns are no sleepers", x.wide(20), 40);
    x.sleeper(4, 0);
    Due.is("one sleeper", x.wide(21), -5);
    Due.is("as wide as it is", x.wide(20), -5);
    Due.is("BAD comes first", x.wide(19), -1);
    Due.is("it stays 20", x.sleeper(1704, 0), -1);
    Due.is("20 to the last cell", x.sleeper(1604, 0), 1);
    Twins.alike("wide with sleepers", y -> y.wide(60), -5);
    Twins.alike("wide 61 with sleepers", y -> y.wide(61), -1);
  }

  /** "a PLACE (0 .. 59: the leftmost cell)". */
  private static void placeBounds() {
    for (int place : new int[] {0, 1, 55, 56}) {
      OneBlanket x = new OneBlanket();
      x.wide(60);
      Due.is("place " + place, x.sleeper(100 * place + 4, 0), 0);
      Due.is("it is " + place, x.of(0, 0), place);
    }
    for (int pb : new int[] {5704, 5804, 5904, 6004, -96, -1, -4, -100, -104, -196, LEAST, MOST, LEAST + 4}) {
      Twins.alike("pb " + pb, x -> x.wide(60), x -> x.sleeper(pb, 0), -1);
    }
  }

  /** "both within WIDE then". */
  private static void withinWideThen() {
    for (int wide : new int[] {20, 21, 40, 60}) {
      for (int breadth : new int[] {4, 5, 19, 20}) {
        OneBlanket x = new OneBlanket();
        x.wide(60);
        x.wide(wide);
        int last = wide - breadth;
        Due.is(breadth + " beyond " + wide, x.sleeper(100 * (last + 1) + breadth, 0), -1);
        Due.is("nobody came", x.count(0), 0);
        Due.is(breadth + " at the edge of " + wide, x.sleeper(100 * last + breadth, 0), 0);
        Due.is("its place", x.of(0, 0), last);
      }
    }
  }

  /** "BREADTH (4 .. 20)". */
  private static void breadthBounds() {
    for (int breadth = 0; breadth <= 99; breadth++) {
      boolean may = breadth >= 4 && breadth <= 20;
      OneBlanket x = new OneBlanket();
      Due.is("breadth " + breadth, x.sleeper(breadth, 0), may ? 0 : -1);
      Due.is("it is " + breadth, x.of(0, 1), may ? breadth : OneBlanket.VOID);
    }
    Twins.alike("breadth 3", x -> x.sleeper(3, 0), -1);
    Twins.alike("breadth 21", x -> x.sleeper(21, 0), -1);
  }

  /** "WANT, HEAT (0 .. 99 each)". */
  private static void wantAndHeatBounds() {
    for (int wh : new int[] {0, 1, 99, 100, 9900, 9998, 9999}) {
      OneBlanket x = new OneBlanket();
      Due.is("wh " + wh, x.sleeper(4, wh), 0);
      Due.is("WANT of " + wh, x.of(0, 2), wh / 100);
      Due.is("HEAT of " + wh, x.of(0, 3), wh % 100);
    }
    for (int wh : new int[] {-1, -99, -100, -9999, 10000, 10099, 99999, LEAST, MOST}) {
      Twins.alike("wh " + wh, x -> x.sleeper(4, wh), -1);
    }
  }

  /** "SLEEPERS 0 .. 5, as they come"; "BAD, FULL: 6." */
  private static void sleepersFull() {
    OneBlanket x = new OneBlanket();
    for (int s = 0; s < 6; s++) {
      Due.is("there are", x.count(0), s);
      Due.is("sleeper " + s, x.sleeper(100 * s + 4 + s, 100 * s + 9), s);
    }
    for (int s = 0; s < 6; s++) {
      Due.is("PLACE of " + s, x.of(s, 0), s);
      Due.is("BREADTH of " + s, x.of(s, 1), 4 + s);
    }
    Twins.Story six = y -> {
      for (int s = 0; s < 6; s++) {
        y.sleeper(100 * s + 4 + s, 100 * s + 9);
      }
    };
    Twins.alike("a seventh", six, y -> y.sleeper(4, 0), -3);
    Twins.alike("pb BAD comes first", six, y -> y.sleeper(3, 0), -1);
    Twins.alike("wh BAD comes first", six, y -> y.sleeper(4, 10000), -1);
    Twins.alike("a place BAD comes first", six, y -> y.sleeper(3704, 0), -1);
  }

  /** "LEFT (-40 .. 60)". */
  private static void leftBounds() {
    for (int left : new int[] {-40, -39, -1, 0, 1, 59, 60}) {
      OneBlanket x = new OneBlanket();
      Due.is("left " + left, x.cover(left, 500, 0), 0);
      Due.is("it is " + left, x.of(0, 10), left);
      Due.is("it lies at " + left, x.lies(0, 0), left);
    }
    for (int left : new int[] {-41, 61, LEAST, MOST}) {
      Twins.alike("left " + left, x -> x.cover(left, 500, 0), -1);
    }
    OneBlanket x = new OneBlanket();
    x.wide(20);
    Due.is("beyond a narrow bed", x.cover(60, 500, 0), 0);
  }

  /** "WIDTH (5 .. 80)". */
  private static void widthBounds() {
    for (int width = 0; width <= 99; width++) {
      boolean may = width >= 5 && width <= 80;
      OneBlanket x = new OneBlanket();
      Due.is("width " + width, x.cover(0, 100 * width + 50, 0), may ? 0 : -1);
      Due.is("it is " + width, x.of(0, 11), may ? width : OneBlanket.VOID);
    }
    for (int ww : new int[] {400, 450, 8100, 8150, 10500, -1, -500, -8000, LEAST, MOST}) {
      Twins.alike("ww " + ww, x -> x.cover(0, ww, 0), -1);
    }
  }

  /** "WARMTH (0 .. 50)". */
  private static void warmthBounds() {
    for (int warmth = 0; warmth <= 99; warmth++) {
      boolean may = warmth <= 50;
      OneBlanket x = new OneBlanket();
      Due.is("warmth " + warmth, x.cover(0, 500 + warmth, 0), may ? 0 : -1);
      Due.is("it is " + warmth, x.of(0, 12), may ? warmth : OneBlanket.VOID);
    }
    Twins.alike("warmth 51", x -> x.cover(0, 551, 0), -1);
    Twins.alike("warmth 99", x -> x.cover(0, 599, 0), -1);
  }

  /** "TUCK (0 .. 9)". */
  private static void tuckBounds() {
    for (int tuck : new int[] {0, 1, 8, 9}) {
      OneBlanket x = new OneBlanket();
      Due.is("tuck " + tuck, x.cover(0, 500, tuck), 0);
      Due.is("it is " + tuck, x.of(0, 13), tuck);
    }
    for (int tuck : new int[] {-1, 10, LEAST, MOST}) {
      Twins.alike("tuck " + tuck, x -> x.cover(0, 500, tuck), -1);
    }
  }

  /** "COVERS 0 .. 2, as they come"; "BAD, FULL: 3." */
  private static void coversFull() {
    OneBlanket x = new OneBlanket();
    for (int c = 0; c < 3; c++) {
      Due.is("there are", x.count(1), c);
      Due.is("cover " + c, x.cover(c, 500 + 100 * c, c), c);
    }
    for (int c = 0; c < 3; c++) {
      Due.is("LEFT of " + c, x.of(c, 10), c);
      Due.is("WIDTH of " + c, x.of(c, 11), 5 + c);
    }
    Twins.Story three = y -> {
      for (int c = 0; c < 3; c++) {
        y.cover(c, 500 + 100 * c, c);
      }
    };
    Twins.alike("a fourth", three, y -> y.cover(0, 500, 0), -3);
    Twins.alike("left BAD comes first", three, y -> y.cover(61, 500, 0), -1);
    Twins.alike("ww BAD comes first", three, y -> y.cover(0, 499, 0), -1);
    Twins.alike("tuck BAD comes first", three, y -> y.cover(0, 500, 10), -1);
  }

  private static final int[] LEASTS = {0, 0, 5, 0};
  private static final int[] MOSTS = {99, 99, 80, 9};
  private static final int[] CODES = {2, 3, 11, 13};

  /** "WANT (what 0), HEAT (1) .., WIDTH (2), TUCK (3) .. becomes v": each as it may be, BAD beyond. */
  private static void mendBounds() {
    for (int what = 0; what < 4; what++) {
      int asked = what;
      for (int v : new int[] {LEASTS[what], LEASTS[what] + 1, MOSTS[what] - 1, MOSTS[what]}) {
        OneBlanket x = new OneBlanket();
        x.sleeper(4, 5050);
        x.cover(0, 5000, 5);
        Due.is("mend " + what + " to " + v, x.mend(0, what, v), what == 3 ? 5 : 50);
        Due.is("it is " + v, x.of(0, CODES[what]), v);
        Due.is("a change", x.count(5), 1);
      }
      for (int v : new int[] {LEASTS[what] - 1, MOSTS[what] + 1, LEAST, MOST}) {
        Twins.alike("mend " + what + " to " + v, x -> x.mend(0, asked, v), -1);
      }
    }
    for (int what : new int[] {-1, 4, 10, LEAST, MOST}) {
      Twins.alike("mend what " + what, x -> x.mend(0, what, 7), -1);
    }
  }

  /** "of a SLEEPER .. of a COVER": one that is there; BAD: no such number. */
  private static void mendOfWhom() {
    for (int what = 0; what < 4; what++) {
      int asked = what;
      Twins.alike("none there, mend " + what, x -> { }, x -> x.mend(0, asked, 7), -1);
      for (int number : new int[] {-1, 2, 6, LEAST, MOST}) {
        Twins.alike("mend " + what + " of " + number, x -> x.mend(number, asked, 7), -1);
      }
    }
    OneBlanket x = new OneBlanket();
    for (int s = 0; s < 6; s++) {
      x.sleeper(4, 1010);
    }
    for (int c = 0; c < 3; c++) {
      x.cover(0, 1000, 1);
    }
    Due.is("the last sleeper", x.mend(5, 0, 11), 10);
    Due.is("its heat", x.mend(5, 1, 12), 10);
    Due.is("the last cover", x.mend(2, 2, 13), 10);
    Due.is("its tuck", x.mend(2, 3, 4), 1);
    Due.is("a sleeper's number is no cover's", x.mend(3, 2, 13), -1);
    Due.is("nor for the tuck", x.mend(3, 3, 4), -1);
    Due.is("no seventh", x.mend(6, 0, 11), -1);
    Due.is("the one ahead stays", x.of(4, 2), 10);
    Due.is("the cover ahead stays", x.of(1, 11), 10);
  }

  /** "becomes v: what it was", nothing else. */
  private static void mendAnswersWhatWas() {
    OneBlanket x = new OneBlanket();
    x.sleeper(204, 3040);
    x.cover(-3, 2050, 6);
    int[] was = {30, 40, 20, 6};
    for (int what = 0; what < 4; what++) {
      Due.is("to what it is " + what, x.mend(0, what, was[what]), was[what]);
      Due.is("is no change " + what, x.count(5), 2 * what);
      Due.is("first " + what, x.mend(0, what, 7), was[what]);
      Due.is("second " + what, x.mend(0, what, 8), 7);
      Due.is("the same " + what, x.mend(0, what, 8), 8);
    }
    int[] codes = {0, 1, 2, 3, 10, 11, 12, 13};
    int[] are = {2, 4, 8, 8, -3, 8, 50, 8};
    for (int i = 0; i < codes.length; i++) {
      Due.is("of " + codes[i], x.of(0, codes[i]), are[i]);
    }
  }

  /** "VOID: BAD": of one who is not there. */
  private static void ofWhom() {
    OneBlanket x = new OneBlanket();
    int[] codes = {0, 1, 2, 3, 10, 11, 12, 13, 20, 21, 22};
    for (int what : codes) {
      Due.is("nothing there " + what, x.of(0, what), OneBlanket.VOID);
    }
    for (int i = 0; i < 60; i++) {
      x.sleeper(100 * i + 4, 10 * i);
      x.cover(i, 500, i);
      x.turn(i, 0, 1);
    }
    for (int what : codes) {
      int many = what < 10 ? 6 : what < 20 ? 3 : 60;
      Due.is("the last " + what, x.of(many - 1, what) != OneBlanket.VOID ? 1 : 0, 1);
      for (int number : new int[] {-1, many, LEAST, MOST}) {
        Due.is("of " + number + " " + what, x.of(number, what), OneBlanket.VOID);
      }
    }
  }

  /** "0 PLACE, 1 BREADTH .. 22 CELLS": no other what. */
  private static void ofWhat() {
    OneBlanket x = new OneBlanket();
    x.sleeper(712, 3421);
    x.cover(-9, 1733, 3);
    x.turn(479, 5, -20);
    int[] due = {7, 12, 34, 21, -9, 17, 33, 3, 479, 5, -20};
    int[] codes = {0, 1, 2, 3, 10, 11, 12, 13, 20, 21, 22};
    for (int what = -3, next = 0; what <= 30; what++) {
      boolean is = next < codes.length && codes[next] == what;
      Due.is("of what " + what, x.of(0, what), is ? due[next] : OneBlanket.VOID);
      next += is ? 1 : 0;
    }
    for (int what : new int[] {LEAST, MOST, 100, -10}) {
      Twins.alike("of what " + what, y -> y.of(0, what), OneBlanket.VOID);
    }
  }

  private static void mends(OneBlanket x, int many) {
    x.sleeper(4, 0);
    for (int i = 1; i <= many; i++) {
      x.mend(0, 0, i);
    }
  }

  /** "40 at most are kept"; "how many may still be. STATE: none.": undone. */
  private static void undoneNoneOneForty() {
    Twins.alike("undo with none", x -> mends(x, 0), OneBlanket::undo, -5);
    for (int many : new int[] {1, 2, 39, 40, 41, 42, 80, 99}) {
      OneBlanket x = new OneBlanket();
      mends(x, many);
      int kept = Math.min(many, 40);
      Due.is("kept of " + many, x.count(5), kept);
      for (int k = kept - 1; k >= 0; k--) {
        Due.is("undo of " + many, x.undo(), k);
        Due.is("may be undone", x.count(5), k);
        Due.is("want", x.of(0, 2), many - kept + k);
      }
      Due.is("none of " + many, x.undo(), -5);
      Due.is("want stays", x.of(0, 2), many - kept);
    }
    Twins.alike("undo with none left", x -> {
      mends(x, 41);
      for (int i = 0; i < 40; i++) {
        x.undo();
      }
    }, OneBlanket::undo, -5);
  }

  /** "DONE AGAIN: how many may still be. STATE: none." */
  private static void doneAgainNoneOneForty() {
    Twins.alike("redo with none", x -> mends(x, 0), OneBlanket::redo, -5);
    Twins.alike("redo with none undone", x -> mends(x, 3), OneBlanket::redo, -5);
    for (int many : new int[] {1, 2, 40, 45}) {
      OneBlanket x = new OneBlanket();
      mends(x, many);
      int kept = Math.min(many, 40);
      for (int k = 0; k < kept; k++) {
        x.undo();
      }
      for (int k = 1; k <= kept; k++) {
        Due.is("redo of " + many, x.redo(), kept - k);
        Due.is("may be undone", x.count(5), k);
        Due.is("want", x.of(0, 2), many - kept + k);
      }
      Due.is("no more of " + many, x.redo(), -5);
      Due.is("want stays", x.of(0, 2), many);
    }
  }

  /** "the latest first", of all four that change, of whomever. */
  private static void latestFirst() {
    OneBlanket x = new OneBlanket();
    x.sleeper(4, 1011);
    x.sleeper(4, 2021);
    x.cover(0, 3000, 3);
    x.cover(0, 4000, 4);
    int[][] calls = {{1, 3, 9}, {0, 0, 55}, {1, 2, 66}, {1, 1, 77}, {0, 3, 8}, {0, 1, 33}, {0, 2, 44}, {1, 0, 22}};
    int[] was = new int[calls.length];
    for (int i = 0; i < calls.length; i++) {
      was[i] = x.of(calls[i][0], CODES[calls[i][1]]);
      Due.is("mend " + i, x.mend(calls[i][0], calls[i][1], calls[i][2]), was[i]);
    }
    for (int i = calls.length - 1; i >= 0; i--) {
      Due.is("undo " + i, x.undo(), i);
      Due.is("as it was " + i, x.of(calls[i][0], CODES[calls[i][1]]), was[i]);
      Due.is("the one ahead still is", i == 0 ? 0 : x.of(calls[i - 1][0], CODES[calls[i - 1][1]]),
          i == 0 ? 0 : calls[i - 1][2]);
    }
    for (int i = 0; i < calls.length; i++) {
      Due.is("redo " + i, x.redo(), calls.length - 1 - i);
      Due.is("as it became " + i, x.of(calls[i][0], CODES[calls[i][1]]), calls[i][2]);
    }
  }

  /** "as long as no other came behind": what is refused, asked or thought does not come behind; a change does. */
  private static void noOtherBehind() {
    OneBlanket x = new OneBlanket();
    mends(x, 3);
    x.cover(0, 1000, 0);
    x.undo();
    x.undo();
    x.mend(0, 0, 100);
    x.mend(1, 0, 5);
    x.broad(0, 0);
    x.tucked(0, 0);
    x.turn(0, 0, 1);
    x.sleeper(4, 0);
    Due.is("none of these came behind", x.redo(), 1);
    Due.is("want", x.of(0, 2), 2);
    x.undo();
    x.mend(0, 2, 11);
    Due.is("another did", x.redo(), -5);
    Due.is("it and the first may be undone", x.count(5), 2);
    Due.is("undo it", x.undo(), 1);
    Due.is("now it may be done again", x.redo(), 0);
    Due.is("width", x.of(0, 11), 11);
  }

  /** 40 are kept of those that are done: with some undone a new one pushes none out. */
  private static void anotherBehindForty() {
    OneBlanket x = new OneBlanket();
    mends(x, 40);
    x.undo();
    x.mend(0, 0, 77);
    Due.is("forty again", x.count(5), 40);
    Due.is("none to do again", x.redo(), -5);
    for (int k = 39; k >= 0; k--) {
      Due.is("undo", x.undo(), k);
      Due.is("want", x.of(0, 2), k);
    }
    Due.is("back to the first", x.undo(), -5);
    OneBlanket y = new OneBlanket();
    mends(y, 40);
    y.mend(0, 0, 77);
    for (int k = 39; k >= 0; k--) {
      Due.is("undo behind the 41st", y.undo(), k);
    }
    Due.is("the first can't be undone any more", y.of(0, 2), 1);
  }

  /** Of more than 40 the oldest are kept no more, of whomever and whatever they were. */
  private static void oldestGoFirst() {
    for (int many = 39; many <= 100; many += many < 45 ? 1 : 11) {
      OneBlanket x = new OneBlanket();
      for (int i = 0; i < 3; i++) {
        x.sleeper(4, 0);
        x.cover(0, 500, 0);
      }
      int[] number = new int[many];
      int[] what = new int[many];
      int[] was = new int[many];
      int[] became = new int[many];
      int z = many;
      for (int i = 0; i < many; i++) {
        z = z * 1664525 + 1013904223;
        number[i] = (z >>> 9) % 3;
        what[i] = (z >>> 16) % 4;
        became[i] = 5 + (x.of(number[i], CODES[what[i]]) + 1) % 5;
        was[i] = x.mend(number[i], what[i], became[i]);
      }
      for (int i = many - 1; i >= Math.max(0, many - 40); i--) {
        Due.is("is " + i, x.of(number[i], CODES[what[i]]), became[i]);
        Due.is("undo " + i, x.undo(), i - Math.max(0, many - 40));
        Due.is("was " + i, x.of(number[i], CODES[what[i]]), was[i]);
      }
      Due.is("none of " + many, x.undo(), -5);
      Due.is("redo the oldest", x.redo(), Math.min(40, many) - 1);
      int oldest = Math.max(0, many - 40);
      Due.is("as it became", x.of(number[oldest], CODES[what[oldest]]), became[oldest]);
    }
  }
}
