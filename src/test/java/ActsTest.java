/** Promises 28 to 36: bodies, acts, shelves. */
public final class ActsTest {
  public static void main(String[] args) {
    bodies();
    acts();
    traces();
    kept();
    rows();
    narrowed();
    shifted();
    shiftRefused();
    taken();
    Due.end();
  }

  private static void bodies() {
    OneBlanket x = new OneBlanket();
    Due.is("kind -1", x.body(-1), -1);
    Due.is("kind 8", x.body(8), -1);
    for (int i = 0; i < 50; i++) {
      Due.is("body " + i, x.body(i % 8), i);
    }
    Due.is("BAD ahead of FULL", x.body(8), -1);
    Due.is("a 51st", x.body(0), -3);
    Due.is("50", x.count(6), 50);
  }

  /** Body n is of kind n; each act told by hand. */
  private static void acts() {
    OneBlanket x = new OneBlanket();
    for (int kind = 0; kind < 8; kind++) {
      x.body(kind);
    }
    for (int v : new int[] {0, 5, -7, 1000000007, Integer.MAX_VALUE, Integer.MIN_VALUE}) {
      int[] turns = {v, v + 1 + 3, v + 2, v + 3, v + 4 + 3, v + 5 + 3, (v + 6) * 2, (v + 7) * 2 - 1};
      int[] warms = {v ^ 0, v ^ 1, v ^ 2, (v ^ 3) * 3, v ^ 4, (v ^ 5) - (2 + 5 + 3), v ^ 6, v ^ 7};
      int[] draws = {turns[0] * 2, turns[1] * 2, -(turns[2] * 2), -((v + 1 + 3) * 2), turns[4] * 2, turns[5] * 2,
          turns[6] * 2, turns[7] * 2 + (2 ^ 7)};
      int[] wakes = {draws[0] - 1, draws[1] - (1 ^ 1), draws[2] - (1 ^ 2), draws[3] - (1 ^ 3) * 3,
          (draws[4] - (1 ^ 4)) ^ 5, ((draws[5] - ((1 ^ 5) - (2 + 5 + 3))) ^ 5) + 1, draws[6] - (1 ^ 6),
          draws[7] - (1 ^ 7)};
      for (int n = 0; n < 8; n++) {
        Due.is("turns of " + n + " by " + v, x.act(n, 0, v), turns[n]);
        Due.is("draws of " + n + " by " + v, x.act(n, 1, v), draws[n]);
        Due.is("warms of " + n + " by " + v, x.act(n, 2, v), warms[n]);
        Due.is("wakes of " + n + " by " + v, x.act(n, 3, v), wakes[n]);
      }
    }
    x.body(7);
    Due.is("n is the number, not the kind", x.act(8, 0, 5), (5 + 8) * 2 - 1);
  }

  private static void traces() {
    OneBlanket x = new OneBlanket();
    for (int kind = 0; kind < 8; kind++) {
      x.body(kind);
    }
    Due.is("none yet", x.trace(0), -1);
    trace(x, 0, 0, 1);
    trace(x, 0, 1, 10, 1);
    trace(x, 0, 3, 2, 10, 1, 11);
    trace(x, 1, 3, 2, 10, 20, 1, 11);
    trace(x, 2, 3, 2, 30, 10, 1, 11);
    trace(x, 3, 3, 2, 41, 30, 10, 1, 40, 11);
    trace(x, 4, 3, 50, 2, 10, 20, 1, 11);
    trace(x, 5, 3, 61, 50, 2, 10, 20, 1, 60, 11, 20, 1);
    trace(x, 6, 3, 2, 10, 70, 1, 11);
    trace(x, 7, 3, 2, 80, 10, 81, 70, 1, 11, 11);
    trace(x, 7, 1, 80, 10, 81, 70, 1, 11);
    Due.is("no such body", x.act(8, 0, 1), 0);
    Due.is("no trace then", x.count(7), 0);
    Due.is("none", x.trace(0), -1);
    trace(x, 5, 2, 60, 11, 20, 1);
    for (int[] call : new int[][] {{-1, 0}, {0, -1}, {0, 4}, {50, 0}, {Integer.MAX_VALUE, 0}}) {
      x.act(0, 0, 1);
      Due.is("act " + call[0] + " " + call[1], x.act(call[0], call[1], 9), 0);
      Due.is("no trace behind it", x.count(7), 0);
    }
  }

  private static void trace(OneBlanket x, int body, int act, int... ran) {
    x.act(body, act, 5);
    Due.is("ran in " + body + " " + act, x.count(7), ran.length);
    for (int i = 0; i < ran.length; i++) {
      Due.is("trace " + i + " of " + body + " " + act, x.trace(i), ran[i]);
    }
    Due.is("no more", x.trace(ran.length), -1);
    Due.is("trace -1", x.trace(-1), -1);
    Due.is("trace 24", x.trace(24), -1);
  }

  private static void kept() {
    OneBlanket x = new OneBlanket();
    x.body(3);
    Due.is("shelf -1", x.keep(-1, 0), -1);
    Due.is("shelf 6", x.keep(6, 0), -1);
    Due.is("body 1", x.keep(0, 1), -1);
    Due.is("body -2", x.keep(0, -2), -1);
    for (int shelf = 0; shelf < 6; shelf++) {
      Due.is("keep on " + shelf, x.keep(shelf, 0), 1);
    }
    Due.is("its kind", x.taken(5, 0), 3);
    Due.is("nothing", x.keep(5, -1), 1);
    Due.is("nothing is there", x.taken(5, 0), -11);
    x.row(4, 0, 3);
    Due.is("nothing instead of a row", x.keep(4, -1), 1);
    Due.is("no row there", x.put(4, 0, 1), -11);
  }

  private static void rows() {
    OneBlanket x = new OneBlanket();
    for (int[] call : new int[][] {{-1, 0, 1}, {6, 0, 1}, {0, -1, 1}, {0, 5, 1}, {0, 0, 61}, {6, 0, -1}, {0, 5, -1}}) {
      Due.is("row " + call[0] + " " + call[1] + " " + call[2], x.row(call[0], call[1], call[2]), -1);
    }
    Due.is("n -1", x.row(0, 0, -1), -14);
    Due.is("n least", x.row(0, 0, Integer.MIN_VALUE), -14);
    Due.is("nothing came", x.put(0, 0, 1), -11);
    Due.is("nothing to read", x.element(0, 0), Long.MIN_VALUE);
    Due.is("60 longs", x.row(0, 3, 60), 1);
    Due.is("put 59", x.put(0, 59, Long.MAX_VALUE), 1);
    Due.is("element 59", x.element(0, 59), Long.MAX_VALUE);
    Due.is("element 58", x.element(0, 58), 0);
    for (int i : new int[] {-1, 60, Integer.MAX_VALUE, Integer.MIN_VALUE}) {
      Due.is("put " + i, x.put(0, i, 1), -13);
      Due.is("element " + i, x.element(0, i), Long.MIN_VALUE);
    }
    Due.is("no such shelf", x.put(6, 0, 1), -1);
    Due.is("none to read", x.element(-1, 0), Long.MIN_VALUE);
    x.row(0, 3, 60);
    Due.is("a new row is 0", x.element(0, 59), 0);
    Due.is("no elements", x.row(0, 0, 0), 1);
    Due.is("none to put", x.put(0, 0, 1), -13);
    x.body(0);
    x.keep(0, 0);
    Due.is("a body is no row", x.put(0, 0, 1), -12);
    Due.is("nor one to read", x.element(0, 0), Long.MIN_VALUE);
  }

  private static void narrowed() {
    OneBlanket x = new OneBlanket();
    for (int sort = 0; sort < 5; sort++) {
      x.row(sort, sort, 1);
    }
    for (long v : new long[] {0, 1, -1, 127, 128, 255, 256, 300, 32768, 65535, 65536, 1L << 31, 1L << 32, -(1L << 40),
        Long.MIN_VALUE, Long.MAX_VALUE}) {
      long[] due = {(byte) v, (short) v, (int) v, v, v == 0 ? 0 : 1};
      for (int sort = 0; sort < 5; sort++) {
        Due.is("put " + v, x.put(sort, 0, v), 1);
        Due.is("sort " + sort + " of " + v, x.element(sort, 0), due[sort]);
      }
    }
  }

  private static void shifted() {
    OneBlanket x = new OneBlanket();
    x.row(0, 2, 5);
    x.row(1, 2, 3);
    for (int i = 0; i < 5; i++) {
      x.put(0, i, i + 1);
    }
    Due.is("to the right", x.shift(0, 0, 0, 1, 4), 4);
    elements(x, 0, 1, 1, 2, 3, 4);
    Due.is("to the left", x.shift(0, 1, 0, 0, 4), 4);
    elements(x, 0, 1, 2, 3, 4, 4);
    Due.is("to another", x.shift(0, 2, 1, 1, 2), 2);
    elements(x, 1, 0, 3, 4);
    elements(x, 0, 1, 2, 3, 4, 4);
    Due.is("none at the end", x.shift(0, 5, 1, 3, 0), 0);
    Due.is("all onto itself", x.shift(1, 0, 1, 0, 3), 3);
    elements(x, 1, 0, 3, 4);
  }

  private static void elements(OneBlanket x, int shelf, long... due) {
    for (int i = 0; i < due.length; i++) {
      Due.is("element " + i + " of " + shelf, x.element(shelf, i), due[i]);
    }
  }

  private static void shiftRefused() {
    OneBlanket x = new OneBlanket();
    x.row(0, 2, 5);
    x.row(1, 2, 3);
    x.row(2, 3, 5);
    x.body(0);
    x.keep(3, 0);
    int[][] places = {{-1, 0, 1}, {0, -1, 1}, {0, 0, -1}, {5, 0, 1}, {0, 3, 1}, {3, 0, 3}, {0, 1, 3}, {6, 0, 0},
        {0, 4, 0}, {Integer.MAX_VALUE, 0, 1}, {1, 0, Integer.MAX_VALUE}, {0, 0, Integer.MIN_VALUE}, {0, 0, 4}};
    for (int[] call : places) {
      Due.is("shift " + call[0] + " " + call[1] + " " + call[2], x.shift(0, call[0], 1, call[1], call[2]), -13);
    }
    Due.is("shelf -1", x.shift(-1, 0, 0, 0, 0), -1);
    Due.is("other 6", x.shift(0, 0, 6, 0, 0), -1);
    Due.is("BAD ahead of -11", x.shift(4, 0, 6, 0, 0), -1);
    Due.is("from nothing", x.shift(4, 0, 0, 0, 0), -11);
    Due.is("to nothing", x.shift(0, 0, 4, 0, 0), -11);
    Due.is("-11 ahead of -12", x.shift(3, 0, 4, 0, -1), -11);
    Due.is("from a body", x.shift(3, 0, 0, 0, 0), -12);
    Due.is("to a body", x.shift(0, 0, 3, 0, 0), -12);
    Due.is("a body to itself", x.shift(3, 0, 3, 0, 0), -12);
    Due.is("unlike sorts", x.shift(0, 0, 2, 0, 1), -12);
    Due.is("-12 ahead of -13", x.shift(0, 0, 2, 0, -1), -12);
  }

  private static void taken() {
    OneBlanket x = new OneBlanket();
    boolean[][] under = new boolean[8][8];
    int[] above = {-1, 0, 0, 2, 1, 4, 0, 6};
    for (int kind = 0; kind < 8; kind++) {
      x.body(kind);
      for (int k = kind; k >= 0; k = above[k]) {
        under[kind][k] = true;
      }
    }
    for (int kind = 0; kind < 8; kind++) {
      x.keep(0, kind);
      for (int k = 0; k < 8; k++) {
        Due.is("kind " + kind + " for " + k, x.taken(0, k), under[kind][k] ? kind : -12);
      }
    }
    Due.is("shelf -1", x.taken(-1, 0), -1);
    Due.is("shelf 6", x.taken(6, 0), -1);
    Due.is("kind -1", x.taken(0, -1), -1);
    Due.is("kind 8", x.taken(0, 8), -1);
    Due.is("nothing", x.taken(1, 0), -11);
    x.row(1, 0, 1);
    Due.is("a row", x.taken(1, 0), -12);
  }
}
