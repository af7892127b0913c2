/** Any call with any arguments in any state: none throws or goes on for ever, none refused changes anything. */
public final class AnyCallTest {
  private static final int OBJECTS = 300, CALLS = 512;
  private static final int[] EDGES = {Integer.MIN_VALUE, -2000000001, -101, -41, -20, -2, -1, 0, 1, 2, 3, 5, 6, 7, 8,
      9, 20, 40, 60, 61, 79, 100, 110, 204, 479, 480, 512, 1030, 2050, 20100, Integer.MAX_VALUE};
  private static int z = 7;

  private static int upTo(int n) {
    z = z * 1664525 + 1013904223;
    return (z >>> 9) % n;
  }

  private static int any() {
    int kind = upTo(8);
    return kind == 0 ? EDGES[upTo(EDGES.length)] : kind < 6 ? upTo(6) : kind == 6 ? upTo(500) : z ^ z >>> 16;
  }

  public static void main(String[] args) {
    for (int k = 0; k < OBJECTS; k++) {
      OneBlanket x = new OneBlanket();
      for (int i = 0; i < CALLS; i++) {
        oneCall(x, k + "." + i);
      }
    }
    Due.end();
  }

  private static void oneCall(OneBlanket x, String at) {
    int which = upTo(36);
    boolean mayChange = which < 12;
    long before = mayChange ? look(x) : 0;
    long got = mayChange ? changing(x, which) : asking(x, which);
    boolean refused = got == OneBlanket.VOID || got <= -1 && got >= -14;
    // force, mend, wide answer what was; -1 may be an answer of force()
    if (mayChange && refused && which != 3) {
      Due.is("call " + at + " of kind " + which + " refused by " + got + " changed", look(x), before);
    }
  }

  /** All that can be asked cheaply, as one number. */
  private static long look(OneBlanket x) {
    long all = 17;
    for (int what = 0; what < 8; what++) {
      all = all * 31 + x.count(what);
    }
    for (int i = 0; i < 6; i++) {
      for (int what = 0; what < 23; what++) {
        all = all * 31 + x.of(i, what);
      }
      for (int k = 0; k < 9; k++) {
        all = all * 31 + x.element(i, k);
        all = all * 31 + x.taken(i, k);
      }
      all = all * 31 + x.trace(i);
    }
    return all;
  }

  private static long changing(OneBlanket x, int which) {
    switch (which) {
      case 0:
        return x.sleeper(upTo(2) * any() + 4 + upTo(20), any());
      case 1:
        return x.cover(any(), upTo(90) * 100 + upTo(55), any());
      case 2:
        return x.mend(any(), any(), any());
      case 3:
        return x.force(any() - 1);
      case 4:
        return x.turn(any(), any(), any());
      case 5:
        return x.tosses(any(), any(), any());
      case 6:
        return x.body(any());
      case 7:
        return x.keep(any(), any() - 1);
      case 8:
        return x.row(any(), any(), any());
      case 9:
        return x.put(any(), any(), any() * 3000000019L);
      case 10:
        return x.shift(any(), any(), any(), any(), any());
      default:
        return x.wide(any());
    }
  }

  private static long asking(OneBlanket x, int which) {
    switch (which) {
      case 12:
        return x.of(any(), any());
      case 13:
      case 14:
      case 15:
      case 16:
        return x.feed("tuwksbmh0123456789!-(()|&<=>+*/%;?".charAt(upTo(34)));
      case 17:
        return upTo(3) == 0 ? x.law() : x.feed(any());
      case 18:
        return upTo(3) == 0 ? x.room() : x.feed(any());
      case 19:
        return upTo(5) == 0 ? x.clear() : 0;
      case 20:
        return x.lies(any(), any());
      case 21:
        return x.sleeps(any(), any(), any());
      case 22:
        return x.minutes(any(), any());
      case 23:
        return x.wakes(any(), any());
      case 24:
        return x.took(any());
      case 25:
        return x.broad(any(), any());
      case 26:
        return x.tucked(any(), any());
      case 27:
        return x.window(any());
      case 28:
        return upTo(8) == 0 ? x.across(any()) : 0;
      case 29:
        return x.drawn(any(), upTo(2) * any() + 1000 * upTo(22) + upTo(103), any(), any());
      case 30:
        return x.morning(any(), any(), any());
      case 31:
        return x.film(any());
      case 32:
        return upTo(2) == 0 ? x.undo() : x.redo();
      case 33:
        return x.act(any(), any(), any());
      case 34:
        return x.trace(any());
      default:
        return x.element(any(), any()) + x.taken(any(), any()) + x.count(any());
    }
  }
}
