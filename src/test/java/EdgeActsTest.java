/** The bounds of acts and shelves: Terms 4, promises 28 to 37. */
public final class EdgeActsTest {
  private static final int LEAST = Integer.MIN_VALUE, MOST = Integer.MAX_VALUE;
  private static final int BYTES = 0, SHORTS = 1, INTS = 2, LONGS = 3, BOOLEANS = 4;

  public static void main(String[] args) {
    kindBounds();
    bodiesFull();
    actsWrap();
    actsOfLastBody();
    actRefused();
    superAndOwn();
    traceBounds();
    traceOfLatest();
    keepBounds();
    keepOver();
    rowBounds();
    rowOfNone();
    rowRefused();
    rowOver();
    zeroAtFirst();
    lowestBits();
    lowestBitsAfterShift();
    placeBounds();
    putRefused();
    shiftBounds();
    shiftFarNumbers();
    shiftAsTheyAllWere();
    shiftOfEachSort();
    shiftRefused();
    takenKinds();
    takenRefused();
    countEach();
    countRan();
    countRefused();
    Due.end();
  }

  /** "of KINDS: 0 .. 7"; "BAD". */
  private static void kindBounds() {
    for (int kind = 0; kind <= 7; kind++) {
      OneBlanket x = new OneBlanket();
      Due.is("kind " + kind, x.body(kind), 0);
      x.keep(0, 0);
      Due.is("it is " + kind, x.taken(0, kind), kind);
    }
    for (int kind : new int[] {-1, 8, 9, LEAST, MOST}) {
      Twins.alike("kind " + kind, x -> x.body(kind), -1);
    }
  }

  private static void bodies(OneBlanket x, int many) {
    for (int n = 0; n < many; n++) {
      x.body(n % 8);
    }
  }

  /** "BODIES 0 .. 49 are kept by call"; "BAD, FULL." */
  private static void bodiesFull() {
    OneBlanket x = new OneBlanket();
    for (int n = 0; n < 50; n++) {
      Due.is("there are", x.count(6), n);
      Due.is("no such body yet", x.keep(0, n), -1);
      Due.is("body " + n, x.body(n % 8), n);
      Due.is("now there is", x.keep(0, n), 1);
      Due.is("its kind", x.taken(0, 0), n % 8);
    }
    Due.is("fifty", x.count(6), 50);
    Due.is("the first is as it was", x.keep(1, 0) + x.taken(1, 0), 1);
    Twins.alike("a 51st", y -> bodies(y, 50), y -> y.body(0), -3);
    Twins.alike("kind 8 of 50", y -> bodies(y, 50), y -> y.body(8), -1);
    Twins.alike("kind -1 of 50", y -> bodies(y, 50), y -> y.body(-1), -1);
  }

  /** "x (an int that wraps)". */
  private static void actsWrap() {
    OneBlanket x = new OneBlanket();
    bodies(x, 8);
    Due.is("MOST + 0", x.act(0, 0, MOST), MOST);
    Due.is("MOST + 1 + 3", x.act(1, 0, MOST), LEAST + 3);
    Due.is("(MOST + 6) * 2", x.act(6, 0, MOST), 10);
    Due.is("MOST * 2", x.act(0, 1, MOST), -2);
    Due.is("LEAST * 2", x.act(0, 1, LEAST), 0);
    Due.is("-(LEAST + 2) * 2", x.act(2, 1, LEAST), -4);
    Due.is("-2 ^ 30 twice, less", x.act(2, 1, (1 << 30) - 2), LEAST);
    Due.is("x + 1 wraps in 41: -((LEAST + 3) * 2)", x.act(3, 1, MOST), -6);
    Due.is("(LEAST ^ 3) * 3", x.act(3, 2, LEAST), LEAST + 9);
    Due.is("(MOST ^ 3) * 3", x.act(3, 2, MOST), (MOST - 3) * 3);
    Due.is("LEAST ^ 2", x.act(2, 2, LEAST), LEAST + 2);
    Due.is("-1 ^ 7", x.act(7, 2, -1), -8);
    Due.is("(MOST + 7) * 2 - 1", x.act(7, 0, MOST), 11);
    Due.is("LEAST less 10 and ^ 5", x.act(5, 2, LEAST), LEAST + 5 - 10);
    Due.is("2 * (2 ^ 30) less 1", x.act(0, 3, 1 << 30), MOST);
    Due.is("(LEAST - (1 ^ 4)) ^ 5", x.act(4, 3, (1 << 30) - 7), (LEAST - 5) ^ 5);
  }

  /** "n its number": of the 50th, too. */
  private static void actsOfLastBody() {
    for (int kind = 0; kind < 8; kind++) {
      OneBlanket x = new OneBlanket();
      for (int n = 0; n < 49; n++) {
        x.body(7 - kind);
      }
      x.body(kind);
      int[] turns = {49, 52, 49, 49, 52, 52, 98, 97};
      Due.is("turns of 49 of kind " + kind, x.act(49, 0, 0), turns[kind]);
      int[] warms = {49, 49, 49, 147, 49, 49 - 54, 49, 49};
      Due.is("warms of 49 of kind " + kind, x.act(49, 2, 0), warms[kind]);
    }
  }

  /** "0, and no TRACE then: no such BODY, ACT." */
  private static void actRefused() {
    int[][] calls = {{2, 0}, {-1, 0}, {50, 0}, {LEAST, 0}, {MOST, 0}, {0, -1}, {0, 4}, {0, LEAST}, {0, MOST}, {2, 4}};
    for (int[] call : calls) {
      OneBlanket x = new OneBlanket();
      Twins.everything(x);
      Due.is("some ran", x.count(7) > 0 ? 1 : 0, 1);
      Due.is("act " + call[0] + " " + call[1], x.act(call[0], call[1], 5), 0);
      Due.is("none ran", x.count(7), 0);
      Due.is("no trace", x.trace(0), -1);
      Twins.alike("twice " + call[0] + " " + call[1], y -> {
        Twins.everything(y);
        y.act(9, 9, 9);
      }, y -> y.act(call[0], call[1], 5), 0);
    }
    Twins.alike("no bodies", x -> { }, x -> x.act(0, 0, 0), 0);
    for (int act = 0; act < 4; act++) {
      OneBlanket x = new OneBlanket();
      x.body(0);
      x.act(0, act, 1);
      Due.is("act " + act + " is one", x.count(7) > 0 ? 1 : 0, 1);
    }
  }

  private static void ran(OneBlanket x, int body, int act, int v, long due, int... numbers) {
    Due.is("act " + body + " " + act, x.act(body, act, v), due);
    Due.is("ran " + body + " " + act, x.count(7), numbers.length);
    for (int i = 0; i < numbers.length; i++) {
      Due.is("trace " + i + " of " + body + " " + act, x.trace(i), numbers[i]);
    }
    Due.is("no more", x.trace(numbers.length), -1);
  }

  /** "the body of its own KIND, or of the next KIND above that has one; super: from the KIND above the body's on". */
  private static void superAndOwn() {
    OneBlanket x = new OneBlanket();
    bodies(x, 8);
    ran(x, 0, 0, 9, 9, 1);
    ran(x, 0, 1, 9, 18, 10, 1);
    ran(x, 0, 2, 9, 9, 11);
    ran(x, 0, 3, 9, 17, 2, 10, 1, 11);
    ran(x, 1, 0, 9, 13, 20, 1);
    ran(x, 1, 1, 9, 26, 10, 20, 1);
    ran(x, 1, 2, 9, 8, 11);
    ran(x, 1, 3, 9, 26, 2, 10, 20, 1, 11);
    ran(x, 2, 0, 9, 11, 1);
    ran(x, 2, 1, 9, -22, 30, 10, 1);
    ran(x, 2, 2, 9, 11, 11);
    ran(x, 2, 3, 9, -25, 2, 30, 10, 1, 11);
    ran(x, 3, 0, 9, 12, 1);
    ran(x, 3, 1, 9, -26, 41, 30, 10, 1);
    ran(x, 3, 2, 9, 30, 40, 11);
    ran(x, 3, 3, 9, -32, 2, 41, 30, 10, 1, 40, 11);
    ran(x, 4, 0, 9, 16, 20, 1);
    ran(x, 4, 1, 9, 32, 10, 20, 1);
    ran(x, 4, 2, 9, 13, 11);
    ran(x, 4, 3, 9, 27 ^ 5, 50, 2, 10, 20, 1, 11);
    ran(x, 5, 0, 9, 17, 20, 1);
    ran(x, 5, 1, 9, 34, 10, 20, 1);
    ran(x, 5, 2, 9, 12 - 10, 60, 11, 20, 1);
    ran(x, 5, 3, 9, ((34 - (4 - 10)) ^ 5) + 1, 61, 50, 2, 10, 20, 1, 60, 11, 20, 1);
    ran(x, 6, 0, 9, 30, 70, 1);
    ran(x, 6, 1, 9, 60, 10, 70, 1);
    ran(x, 6, 2, 9, 15, 11);
    ran(x, 6, 3, 9, 60 - 7, 2, 10, 70, 1, 11);
    ran(x, 7, 0, 9, 31, 81, 70, 1);
    ran(x, 7, 1, 9, 62 + 5, 80, 10, 81, 70, 1, 11);
    ran(x, 7, 2, 9, 14, 11);
    ran(x, 7, 3, 9, 67 - 6, 2, 80, 10, 81, 70, 1, 11, 11);
  }

  /** "THE TRACE's i-th body. BAD."; "the first 24 are kept". */
  private static void traceBounds() {
    for (int i : new int[] {-1, 10, 23, 24, 25, LEAST, MOST}) {
      Twins.alike("trace " + i, x -> x.trace(i), -1);
    }
    Twins.alike("nothing ran yet", x -> { }, x -> x.trace(0), -1);
    OneBlanket x = new OneBlanket();
    x.body(5);
    x.act(0, 3, 0);
    Due.is("the longest", x.count(7), 10);
    Due.is("its first", x.trace(0), 61);
    Due.is("its last", x.trace(9), 1);
    Due.is("not one more", x.trace(10), -1);
  }

  /** "that ran in the latest act()": each begins anew. */
  private static void traceOfLatest() {
    OneBlanket x = new OneBlanket();
    bodies(x, 8);
    for (int i = 0; i < 40; i++) {
      x.act(5, 3, i);
      Due.is("ten each time", x.count(7), 10);
    }
    x.act(0, 0, 1);
    Due.is("one", x.count(7), 1);
    Due.is("it is 1", x.trace(0), 1);
    Due.is("no more of those ahead", x.trace(1), -1);
    x.body(0);
    x.keep(0, 0);
    Due.is("no act", x.trace(0), 1);
  }

  /** "A SHELF holds nothing (body -1), or a BODY: 1. BAD." */
  private static void keepBounds() {
    OneBlanket x = new OneBlanket();
    bodies(x, 50);
    for (int shelf = 0; shelf <= 5; shelf++) {
      Due.is("nothing on " + shelf, x.keep(shelf, -1), 1);
      Due.is("it is nothing", x.taken(shelf, 0), -11);
      Due.is("body 0 on " + shelf, x.keep(shelf, 0), 1);
      Due.is("body 49 on " + shelf, x.keep(shelf, 49 - shelf), 1);
      Due.is("it is of its kind", x.taken(shelf, 0), (49 - shelf) % 8);
    }
    for (int shelf = 0; shelf <= 5; shelf++) {
      Due.is("each its own", x.taken(shelf, 0), (49 - shelf) % 8);
    }
    Due.is("body 50", x.keep(0, 50), -1);
    for (int shelf : new int[] {-1, 6, LEAST, MOST}) {
      Twins.alike("keep on " + shelf, y -> y.keep(shelf, 0), -1);
      Twins.alike("nothing on " + shelf, y -> y.keep(shelf, -1), -1);
    }
    for (int body : new int[] {-2, 2, 50, LEAST, MOST}) {
      Twins.alike("keep a body " + body, y -> y.keep(0, body), -1);
      Twins.alike("over a row " + body, y -> y.keep(1, body), -1);
      Twins.alike("over nothing " + body, y -> y.keep(5, body), -1);
    }
    Twins.alike("no bodies", y -> { }, y -> y.keep(0, 0), -1);
    Twins.alike("nothing over nothing", y -> { }, y -> y.keep(0, -1), 1);
  }

  /** A shelf holds one thing: what comes takes the place of what was there. */
  private static void keepOver() {
    OneBlanket x = new OneBlanket();
    x.body(6);
    x.row(0, LONGS, 5);
    x.put(0, 4, 9);
    x.keep(0, 0);
    Due.is("a body now", x.taken(0, 6), 6);
    Due.is("no row", x.put(0, 4, 9), -12);
    x.row(0, LONGS, 5);
    Due.is("a row now", x.taken(0, 6), -12);
    Due.is("a new one", x.element(0, 4), 0);
    x.keep(0, -1);
    Due.is("nothing now", x.put(0, 4, 9), -11);
    Due.is("nothing to take", x.taken(0, 6), -11);
    Due.is("the body is still there", x.count(6), 1);
    for (int sort = 0; sort <= 4; sort++) {
      OneBlanket y = new OneBlanket();
      y.body(0);
      y.cover(0, 500, 0);
      y.row(0, sort, 9);
      y.row(1, sort, 9);
      y.keep(0, 0);
      Due.is("from a body where a row was", y.shift(0, 0, 1, 0, 1), -12);
      Due.is("to a body where a row was", y.shift(1, 0, 0, 0, 1), -12);
      Due.is("no film of it", y.film(0), -12);
      Due.is("no turns from it", y.tosses(0, 0, 1), -12);
      Due.is("nothing to read of it", y.element(0, 0), Long.MIN_VALUE);
      y.keep(0, -1);
      Due.is("from nothing where a row was", y.shift(0, 0, 1, 0, 1), -11);
      Due.is("to nothing where a row was", y.shift(1, 0, 0, 0, 1), -11);
      Due.is("no film of nothing", y.film(0), -11);
      Due.is("no turns from nothing", y.tosses(0, 0, 1), 0);
      Due.is("nothing to read there", y.element(0, 0), Long.MIN_VALUE);
    }
  }

  /** "of 0 bytes, 1 shorts, 2 ints, 3 longs, 4 booleans, of 0 .. 60 elements". */
  private static void rowBounds() {
    for (int sort = 0; sort <= 4; sort++) {
      for (int n : new int[] {0, 1, 2, 59, 60}) {
        for (int shelf = 0; shelf <= 5; shelf += 5) {
          OneBlanket x = new OneBlanket();
          Due.is("row " + sort + " of " + n, x.row(shelf, sort, n), 1);
          Due.is("the last place", x.put(shelf, n - 1, 1), n == 0 ? -13 : 1);
          Due.is("is read", x.element(shelf, n - 1), n == 0 ? Long.MIN_VALUE : 1);
          Due.is("one more", x.put(shelf, n, 1), -13);
          Due.is("is not read", x.element(shelf, n), Long.MIN_VALUE);
          Due.is("of its sort", x.film(shelf), sort != 1 ? -12 : n < 9 ? -13 : -5);
        }
      }
    }
  }

  private static void rowOfNone() {
    OneBlanket x = new OneBlanket();
    x.row(0, INTS, 0);
    Due.is("it is a row", x.taken(0, 0), -12);
    Due.is("no place", x.put(0, 0, 1), -13);
    Due.is("none moves to itself", x.shift(0, 0, 0, 0, 0), 0);
    Due.is("not one", x.shift(0, 0, 0, 0, 1), -13);
  }

  /** "BAD (sort, n above 60); -14.": BAD comes first; -14 a size below 0. */
  private static void rowRefused() {
    for (int on = 0; on <= 5; on++) {
      int shelf = on;
      for (int sort : new int[] {-1, 5, LEAST, MOST}) {
        for (int n : new int[] {0, 60, 61, -1, LEAST, MOST}) {
          Twins.alike("sort " + sort + " of " + n, x -> x.row(shelf, sort, n), -1);
        }
      }
      for (int n : new int[] {61, 62, MOST}) {
        Twins.alike("n " + n, x -> x.row(shelf, LONGS, n), -1);
      }
      for (int n : new int[] {-1, -60, LEAST}) {
        Twins.alike("n " + n, x -> x.row(shelf, BYTES, n), -14);
        Twins.alike("n of booleans " + n, x -> x.row(shelf, BOOLEANS, n), -14);
      }
    }
    for (int shelf : new int[] {-1, 6, LEAST, MOST}) {
      for (int n : new int[] {0, 61, -1}) {
        Twins.alike("row on " + shelf + " of " + n, x -> x.row(shelf, SHORTS, n), -1);
      }
    }
  }

  private static void rowOver() {
    OneBlanket x = new OneBlanket();
    x.row(0, INTS, 60);
    x.put(0, 30, 7);
    x.put(0, 59, 7);
    Due.is("a shorter one", x.row(0, INTS, 31), 1);
    Due.is("has no 31st", x.element(0, 31), Long.MIN_VALUE);
    Due.is("is 0", x.element(0, 30), 0);
    x.row(0, INTS, 60);
    Due.is("is 0 to the end", x.element(0, 59), 0);
  }

  /** "0 at first (false)". */
  private static void zeroAtFirst() {
    for (int sort = 0; sort <= 4; sort++) {
      OneBlanket x = new OneBlanket();
      x.row(3, LONGS, 60);
      for (int i = 0; i < 60; i++) {
        x.put(3, i, -1);
      }
      x.row(3, sort, 60);
      for (int i = 0; i < 60; i++) {
        Due.is("element " + i + " of sort " + sort, x.element(3, i), 0);
      }
    }
  }

  /** "what is put in keeps its lowest bits (a boolean: whether it is not 0; 1 or 0)". */
  private static void lowestBits() {
    long[][] rows = {
      {0, 0, 0, 0, 0}, {1, 1, 1, 1, 1}, {-1, -1, -1, -1, 1}, {2, 2, 2, 2, 1},
      {127, 127, 127, 127, 1}, {128, -128, 128, 128, 1}, {-128, -128, -128, -128, 1}, {-129, 127, -129, -129, 1},
      {255, -1, 255, 255, 1}, {256, 0, 256, 256, 1}, {300, 44, 300, 300, 1},
      {32767, -1, 32767, 32767, 1}, {32768, 0, -32768, 32768, 1}, {-32768, 0, -32768, -32768, 1},
      {-32769, -1, 32767, -32769, 1}, {65535, -1, -1, 65535, 1}, {65536, 0, 0, 65536, 1},
      {MOST, -1, -1, MOST, 1}, {MOST + 1L, 0, 0, LEAST, 1}, {LEAST, 0, 0, LEAST, 1}, {LEAST - 1L, -1, -1, MOST, 1},
      {(1L << 32) - 1, -1, -1, -1, 1}, {1L << 32, 0, 0, 0, 1}, {(1L << 32) + 5, 5, 5, 5, 1},
      {Long.MAX_VALUE, -1, -1, -1, 1}, {Long.MIN_VALUE, 0, 0, 0, 1}, {Long.MIN_VALUE + 9, 9, 9, 9, 1},
    };
    OneBlanket x = new OneBlanket();
    for (int sort = 0; sort <= 4; sort++) {
      x.row(sort, sort, 3);
    }
    for (long[] row : rows) {
      long[] due = {row[1], row[2], row[3], row[0], row[4]};
      for (int sort = 0; sort <= 4; sort++) {
        Due.is("put " + row[0] + " to sort " + sort, x.put(sort, 1, row[0]), 1);
        Due.is(row[0] + " of sort " + sort, x.element(sort, 1), due[sort]);
      }
    }
    for (int sort = 0; sort <= 4; sort++) {
      Due.is("the one ahead stays", x.element(sort, 0), 0);
      Due.is("the one behind stays", x.element(sort, 2), 0);
    }
  }

  private static void lowestBitsAfterShift() {
    OneBlanket x = new OneBlanket();
    x.row(0, BOOLEANS, 2);
    x.put(0, 0, 256);
    x.shift(0, 0, 0, 1, 1);
    Due.is("a boolean is 1", x.element(0, 1), 1);
    x.row(0, BYTES, 2);
    x.put(0, 0, 511);
    x.shift(0, 0, 0, 1, 1);
    Due.is("a byte is -1", x.element(0, 1), -1);
  }

  /** "-13 a place that is not there". */
  private static void placeBounds() {
    for (int n : new int[] {1, 9, 60}) {
      OneBlanket x = new OneBlanket();
      x.row(0, LONGS, n);
      for (int i : new int[] {0, n / 2, n - 1}) {
        Due.is("put " + i + " of " + n, x.put(0, i, 100 + i), 1);
        Due.is("element " + i + " of " + n, x.element(0, i), 100 + i);
      }
      for (int i : new int[] {-1, n, n + 1, LEAST, MOST}) {
        Due.is("put " + i + " of " + n, x.put(0, i, 1), -13);
        Due.is("element " + i + " of " + n, x.element(0, i), Long.MIN_VALUE);
      }
    }
  }

  /** "BAD, -11, -12, -13."; "Long.MIN_VALUE: BAD, -11 to -13." */
  private static void putRefused() {
    for (int shelf : new int[] {-1, 6, LEAST, MOST}) {
      Twins.alike("put on " + shelf, x -> x.put(shelf, 0, 5), -1);
      Twins.alike("element of " + shelf, x -> x.element(shelf, 0), Long.MIN_VALUE);
    }
    for (int i : new int[] {0, -1, 60, LEAST, MOST}) {
      Twins.alike("put to nothing " + i, x -> x.put(5, i, 5), -11);
      Twins.alike("element of nothing " + i, x -> x.element(5, i), Long.MIN_VALUE);
      Twins.alike("put to a body " + i, x -> x.put(0, i, 5), -12);
      Twins.alike("element of a body " + i, x -> x.element(0, i), Long.MIN_VALUE);
    }
    for (int i : new int[] {-1, 9, 59, 60, LEAST, MOST}) {
      Twins.alike("put to place " + i, x -> x.put(1, i, 5), -13);
      Twins.alike("element of place " + i, x -> x.element(1, i), Long.MIN_VALUE);
    }
    OneBlanket x = new OneBlanket();
    x.row(0, LONGS, 1);
    x.put(0, 0, Long.MIN_VALUE);
    Due.is("an element may be that, too", x.element(0, 0), Long.MIN_VALUE);
  }

  /** "n elements of a ROW from i on come to another one .. from j on .. : n .. -13 (n below 0, too)." */
  private static void shiftBounds() {
    for (int i = -1; i <= 5; i++) {
      for (int j = -1; j <= 4; j++) {
        for (int n = -1; n <= 5; n++) {
          boolean may = n >= 0 && i >= 0 && j >= 0 && i + n <= 4 && j + n <= 3;
          OneBlanket x = new OneBlanket();
          fill(x, 0, INTS, 4, 10);
          fill(x, 1, INTS, 3, 20);
          String told = i + " " + j + " " + n;
          Due.is("shift " + told, x.shift(0, i, 1, j, n), may ? n : -13);
          for (int k = 0; k < 3; k++) {
            boolean came = may && k >= j && k < j + n;
            Due.is(k + " behind " + told, x.element(1, k), came ? 10 + i + k - j : 20 + k);
          }
          for (int k = 0; k < 4; k++) {
            Due.is(k + " where it came from", x.element(0, k), 10 + k);
          }
        }
      }
    }
    OneBlanket x = new OneBlanket();
    fill(x, 0, LONGS, 60, 0);
    fill(x, 1, LONGS, 60, 100);
    Due.is("all 60", x.shift(0, 0, 1, 0, 60), 60);
    Due.is("the last", x.element(1, 59), 59);
    Due.is("61", x.shift(0, 0, 1, 0, 61), -13);
    Due.is("none from the end to the end", x.shift(0, 60, 1, 60, 0), 0);
    Due.is("none from behind the end", x.shift(0, 61, 1, 0, 0), -13);
    Due.is("none to behind the end", x.shift(0, 0, 1, 61, 0), -13);
  }

  private static void fill(OneBlanket x, int shelf, int sort, int n, int first) {
    x.row(shelf, sort, n);
    for (int i = 0; i < n; i++) {
      x.put(shelf, i, first + i);
    }
  }

  /** Numbers that would wrap when they are summed up. */
  private static void shiftFarNumbers() {
    int[] far = {LEAST, LEAST + 1, -60, 60, MOST - 1, MOST};
    for (int a : far) {
      Twins.alike("i " + a, x -> x.shift(1, a, 1, 0, 1), -13);
      Twins.alike("j " + a, x -> x.shift(1, 0, 1, a, 1), -13);
      Twins.alike("n " + a, x -> x.shift(1, 0, 1, 0, a), -13);
      for (int b : far) {
        Twins.alike("i " + a + " n " + b, x -> x.shift(1, a, 1, 0, b), -13);
        Twins.alike("j " + a + " n " + b, x -> x.shift(1, 0, 1, a, b), -13);
        Twins.alike("i and j " + a + " n " + b, x -> x.shift(1, a, 1, a, b), -13);
      }
    }
  }

  /** "(or the same) .. as they all were before". */
  private static void shiftAsTheyAllWere() {
    for (int i = 0; i <= 6; i++) {
      for (int j = 0; j <= 6; j++) {
        for (int n = 0; n <= 6 - Math.max(i, j); n++) {
          OneBlanket x = new OneBlanket();
          fill(x, 2, BYTES, 6, 40);
          Due.is("shift within " + i + " " + j + " " + n, x.shift(2, i, 2, j, n), n);
          for (int k = 0; k < 6; k++) {
            boolean came = k >= j && k < j + n;
            Due.is(k + " behind " + i + " " + j + " " + n, x.element(2, k), came ? 40 + i + k - j : 40 + k);
          }
        }
      }
    }
  }

  private static void shiftOfEachSort() {
    for (int sort = 0; sort <= 4; sort++) {
      for (int other = 0; other <= 4; other++) {
        OneBlanket x = new OneBlanket();
        fill(x, 0, sort, 3, 1);
        fill(x, 5, other, 3, 0);
        Due.is(sort + " to " + other, x.shift(0, 0, 5, 0, 3), sort == other ? 3 : -12);
        Due.is("it came or not", x.element(5, 0), sort == other ? 1 : 0);
        Due.is("none of " + sort + " to " + other, x.shift(0, 0, 5, 0, 0), sort == other ? 0 : -12);
      }
    }
  }

  /** "BAD, -11 (either), -12 (no ROWS, or of unlike sorts), -13": the one named first. */
  private static void shiftRefused() {
    int[] holds = {-1, 6, 5, 0, 1, 2};
    for (int one : holds) {
      for (int other : holds) {
        boolean bad = one < 0 || one > 5 || other < 0 || other > 5;
        boolean nothing = one == 5 || other == 5;
        boolean kind = one == 0 || other == 0 || one != other;
        for (int n : new int[] {0, 1, -1, 61}) {
          int due = bad ? -1 : nothing ? -11 : kind ? -12 : n < 0 || n > 60 ? -13 : n;
          Twins.alike("shift " + one + " to " + other + " of " + n, x -> x.shift(one, 0, other, 0, n), due);
        }
      }
    }
    Twins.alike("far shelves", x -> x.shift(LEAST, 0, MOST, 0, 1), -1);
    Twins.alike("far shelf", x -> x.shift(1, 0, MOST, 0, 1), -1);
    Twins.alike("another far shelf", x -> x.shift(LEAST, 0, 1, 0, 1), -1);
  }

  /** "taken for a BODY of KIND k (0 .. 7), or under it: its KIND." */
  private static void takenKinds() {
    String[] above = {"0", "10", "20", "320", "410", "5410", "60", "760"};
    OneBlanket x = new OneBlanket();
    bodies(x, 8);
    for (int kind = 0; kind < 8; kind++) {
      x.keep(kind % 6, kind);
      for (int k = 0; k < 8; k++) {
        boolean is = above[kind].indexOf('0' + k) >= 0;
        Due.is("kind " + kind + " taken for " + k, x.taken(kind % 6, k), is ? kind : -12);
      }
    }
  }

  /** "BAD, -11, -12." */
  private static void takenRefused() {
    for (int shelf : new int[] {-1, 6, LEAST, MOST}) {
      Twins.alike("taken from " + shelf, x -> x.taken(shelf, 0), -1);
    }
    for (int k : new int[] {-1, 8, LEAST, MOST}) {
      Twins.alike("taken for " + k, x -> x.taken(0, k), -1);
      Twins.alike("nothing taken for " + k, x -> x.taken(5, k), -1);
      Twins.alike("a row taken for " + k, x -> x.taken(1, k), -1);
    }
    for (int kind = 0; kind <= 7; kind++) {
      int k = kind;
      Twins.alike("nothing for " + k, x -> x.taken(5, k), -11);
      Twins.alike("a row for " + k, x -> x.taken(1, k), -12);
      Twins.alike("of kind 7 for " + k, x -> x.taken(0, k), k == 7 || k == 6 || k == 0 ? 7 : -12);
    }
  }

  /** "How many: 0 SLEEPERS .. 6 BODIES": none, one, as many as may be. */
  private static void countEach() {
    int[] most = {6, 3, 60, 4, 120, 40, 50};
    for (int what = 0; what < most.length; what++) {
      OneBlanket x = new OneBlanket();
      if (what == 5) {
        x.sleeper(4, 0);
      }
      Due.is("count none " + what, x.count(what), 0);
      for (int i = 1; i <= most[what] + 2; i++) {
        addOne(x, what, i);
        Due.is("count " + what + " behind " + i, x.count(what), Math.min(i, most[what]));
      }
      for (int other = 0; other < 8; other++) {
        int due = what == 5 && other == 0 ? 1 : 0;
        Due.is("no other " + other, other == what ? due : x.count(other), due);
      }
    }
  }

  /** "7 bodies that ran in the latest act() (all, kept or not)". */
  private static void countRan() {
    OneBlanket x = new OneBlanket();
    bodies(x, 8);
    Due.is("none yet", x.count(7), 0);
    int[][] due = {{1, 2, 1, 4}, {2, 3, 1, 5}, {1, 3, 1, 5}, {1, 4, 2, 7}, {2, 3, 1, 6}, {2, 3, 4, 10}, {2, 3, 1, 5},
        {3, 6, 1, 8}};
    for (int body = 0; body < 8; body++) {
      for (int act = 0; act < 4; act++) {
        x.act(body, act, 3);
        Due.is("ran in " + body + " " + act, x.count(7), due[body][act]);
      }
    }
    x.act(8, 0, 3);
    Due.is("none in one that is refused", x.count(7), 0);
  }

  private static void addOne(OneBlanket x, int what, int i) {
    switch (what) {
      case 0:
        x.sleeper(4, 0);
        break;
      case 1:
        x.cover(0, 500, 0);
        break;
      case 2:
        x.turn(0, 0, 1);
        break;
      case 3:
        if (x.count(4) == 0) {
          x.feed('t');
        }
        if (x.law() == -3) {
          x.room();
        }
        break;
      case 4:
        x.feed('t');
        break;
      case 5:
        x.mend(0, 0, i);
        break;
      default:
        x.body(0);
        break;
    }
  }

  /** "BAD." */
  private static void countRefused() {
    for (int what : new int[] {-1, 8, 9, LEAST, MOST}) {
      Twins.alike("count " + what, x -> x.count(what), -1);
    }
  }
}
