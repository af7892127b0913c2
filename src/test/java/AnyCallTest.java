/**
 * Any call with any arguments in any state: none throws or goes on for ever; and a second bed on which those that
 * were refused are left out answers all others alike, so that what was refused has changed nothing.
 */
public final class AnyCallTest {
  private static final int OBJECTS = 1200, CALLS = 512, METHODS = 36;
  private static final int[] EDGES = {Integer.MIN_VALUE, -2000000001, -101, -41, -20, -2, -1, 0, 1, 2, 3, 5, 6, 7, 8,
      9, 20, 40, 60, 61, 79, 100, 110, 204, 479, 480, 512, 1030, 2050, 20100, Integer.MAX_VALUE};
  private static final String SIGNS = "tuwksbmh0123456789!-(()|&<=>+*/%;?";
  private static int z = 7;

  private static int upTo(int n) {
    z = z * 1664525 + 1013904223;
    return (z >>> 9) % n;
  }

  private static int any() {
    int kind = upTo(8);
    return kind == 0 ? EDGES[upTo(EDGES.length)] : kind < 6 ? upTo(6) : kind == 6 ? upTo(500) : z ^ z >>> 16;
  }

  public static void main(String[] args) {
    int refused = 0;
    for (int k = 0; k < OBJECTS; k++) {
      int[][] calls = new int[CALLS][];
      long[] answers = new long[CALLS];
      OneBlanket x = new OneBlanket();
      for (int i = 0; i < CALLS; i++) {
        calls[i] = made(upTo(METHODS + 6));
        answers[i] = call(x, calls[i]);
      }
      OneBlanket y = new OneBlanket();
      for (int i = 0; i < CALLS; i++) {
        if (isRefused(calls[i][0], answers[i])) {
          refused++;
        } else {
          Due.is("call " + i + " on bed " + k + " of kind " + calls[i][0], call(y, calls[i]), answers[i]);
        }
      }
    }
    Due.is("many were refused, many were not", refused > OBJECTS * 100 && refused < OBJECTS * 400 ? 1 : 0, 1);
    Due.end();
  }

  /** force() and act() may answer so where they do something. */
  private static boolean isRefused(int which, long answer) {
    boolean may = answer == -1 || answer == -2 || answer == -3 || answer == -5 || answer <= -11 && answer >= -14
        || answer == OneBlanket.VOID || answer == Long.MIN_VALUE;
    return which == 3 ? answer == OneBlanket.VOID : which != 33 && may;
  }

  /** The number of a method (feed() has more than one) and what it may be called with. */
  private static int[] made(int which) {
    int[] call = {which, any(), any(), any(), any(), any()};
    boolean asIs = upTo(6) == 0;
    switch (which) {
      case 0:
        call[1] = asIs ? any() : 100 * upTo(40) + 4 + upTo(17);
        call[2] = asIs ? any() : upTo(10100);
        break;
      case 1:
        call[2] = asIs ? any() : 100 * upTo(90) + upTo(55);
        break;
      case 4:
        call[1] = asIs ? any() : upTo(481);
        call[3] = asIs ? any() : upTo(42) - 21;
        break;
      case 5:
        call[2] = upTo(3) == 0 ? any() : 0;
        break;
      case 8:
        call[2] = upTo(2) == 0 ? 1 : any();
        call[3] = upTo(3) == 0 ? any() : upTo(61);
        break;
      case 11:
        call[1] = asIs ? any() : 19 + upTo(43);
        break;
      case 23:
        call[2] = asIs ? any() : 1000 * upTo(22) + upTo(103);
        break;
      case 36:
      case 37:
      case 38:
      case 39:
      case 40:
      case 41:
        call[0] = 16;
        call[1] = SIGNS.charAt(upTo(SIGNS.length()));
        break;
      default:
        break;
    }
    return call;
  }

  private static long call(OneBlanket x, int[] call) {
    int a = call[1];
    int b = call[2];
    int c = call[3];
    switch (call[0]) {
      case 0:
        return x.sleeper(a, b);
      case 1:
        return x.cover(a, b, c);
      case 2:
        return x.mend(a, b, c);
      case 3:
        return x.force(a - 1);
      case 4:
        return x.turn(a, b, c);
      case 5:
        return x.tosses(a, b, c);
      case 6:
        return x.body(a);
      case 7:
        return x.keep(a, b - 1);
      case 8:
        return x.row(a, b, c);
      case 9:
        return x.put(a, b, c * 3000000019L);
      case 10:
        return x.shift(a, b, c, call[4], call[5]);
      case 11:
        return x.wide(a);
      case 12:
        return x.of(a, b);
      case 13:
        return x.law();
      case 14:
        return x.room();
      case 15:
        return b % 4 == 0 ? x.clear() : x.count(2);
      case 16:
        return x.feed(a);
      case 17:
        return x.lies(a, b);
      case 18:
        return x.sleeps(a, b, c);
      case 19:
        return x.minutes(a, b);
      default:
        return ask(x, call);
    }
  }

  private static long ask(OneBlanket x, int[] call) {
    int a = call[1];
    int b = call[2];
    int c = call[3];
    switch (call[0]) {
      case 20:
        return x.wakes(a, b);
      case 21:
        return x.took(a);
      case 22:
        return x.broad(a, b);
      case 23:
        return x.drawn(a, b, c, call[4] & 1);
      case 24:
        return x.tucked(a, b);
      case 25:
        return x.window(a);
      case 26:
        return x.across(a);
      case 27:
        return x.morning(a, b, c);
      case 28:
        return x.film(a);
      case 29:
        return x.undo();
      case 30:
        return x.redo();
      case 31:
        return x.trace(a);
      case 32:
        return x.element(a, b);
      case 33:
        return x.act(a, b, c);
      case 34:
        return x.taken(a, b);
      default:
        return x.count(a);
    }
  }
}
