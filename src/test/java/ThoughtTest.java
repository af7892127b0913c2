/** Promises 19 to 25: what is answered in thought, all as before behind it. */
public final class ThoughtTest {
  public static void main(String[] args) {
    broad();
    tucked();
    window();
    across();
    drawn();
    morning();
    film();
    filmRefused();
    Due.end();
  }

  private static void broad() {
    OneBlanket x = new OneBlanket();
    x.cover(3, 900, 0);
    Due.is("nobody is bare", x.broad(0, 0), 5);
    x.sleeper(510, 0);
    Due.is("from 3 to 15", x.broad(0, 0), 12);
    Due.is("the width is as before", x.of(0, 11), 9);
    x.turn(60, 0, -2);
    Due.is("in the minute before", x.broad(0, 59), 12);
    Due.is("a narrower one is drawn less: 2 * 9 / 10", x.broad(0, 60), 11);
    Due.is("its told left is as before", x.of(0, 10), 3);
    x.cover(30, 500, 0);
    Due.is("the other one can't", x.broad(1, 0), -2);
    Due.is("as before", x.of(1, 11), 5);
    x.sleeper(2810, 0);
    Due.is("from 3 to 38, what the other covers in between does not help", x.broad(0, 0), 35);
    for (int[] call : new int[][] {{-1, 0}, {2, 0}, {0, -1}, {0, 480}}) {
      Due.is("broad " + call[0] + " " + call[1], x.broad(call[0], call[1]), -1);
    }
    Due.is("no change to undo", x.count(5), 0);
    OneBlanket y = new OneBlanket();
    y.wide(60);
    y.sleeper(4515, 0);
    y.cover(-20, 500, 0);
    Due.is("80 does it", y.broad(0, 0), 80);
    OneBlanket z = new OneBlanket();
    z.wide(60);
    z.sleeper(4515, 0);
    z.cover(-21, 500, 0);
    Due.is("80 does not", z.broad(0, 0), -2);
  }

  private static void tucked() {
    OneBlanket x = new OneBlanket();
    x.cover(0, 1020, 4);
    Due.is("nobody: the least", x.tucked(0, 0), 0);
    Due.is("nobody: 0", x.tucked(0, 1), 0);
    x.sleeper(10, 3000);
    x.turn(100, 0, 5);
    x.turn(101, 0, -5);
    Due.is("as mending it finds", x.tucked(0, 0), tuckBy(x)[0]);
    Due.is("and how many", x.tucked(0, 1), tuckBy(x)[1]);
    Due.is("as before", x.of(0, 13), 4);
    for (int[] call : new int[][] {{-1, 0}, {1, 0}, {0, -1}, {0, 2}}) {
      Due.is("tucked " + call[0] + " " + call[1], x.tucked(call[0], call[1]), -1);
    }
    OneBlanket y = new OneBlanket();
    y.sleeper(10, 3000);
    y.cover(-5, 1520, 0);
    y.turn(0, 0, -8);
    Due.is("the less it goes left the better", y.tucked(0, 0), 6);
    Due.is("all night", y.tucked(0, 1), 480);
  }

  /** TUCKED of cover 0 and sleeper 0 by mending it and mending it back. */
  private static int[] tuckBy(OneBlanket x) {
    int[] best = {-1, -1};
    for (int tuck = 0; tuck <= 9; tuck++) {
      int was = x.mend(0, 3, tuck);
      int easy = x.minutes(0, 0);
      x.mend(0, 3, was);
      if (easy > best[1]) {
        best = new int[] {tuck, easy};
      }
    }
    return best;
  }

  private static void window() {
    OneBlanket x = new OneBlanket();
    Due.is("nobody", x.window(0), OneBlanket.VOID);
    x.sleeper(4, 2200);
    Due.is("7 more", x.window(0), 7);
    Due.is("all night", x.window(1), 480);
    x.sleeper(1004, 1100);
    Due.is("no number for both", x.window(0), -9);
    Due.is("0", x.window(1), 0);
    x.mend(1, 0, 14);
    Due.is("22 - 5 and 14 + 5", x.window(0), 7);
    Due.is("both", x.window(1), 480);
    Due.is("as before", x.sleeps(0, 0, 2), 10);
    Due.is("what -1", x.window(-1), OneBlanket.VOID);
    Due.is("what 2", x.window(2), OneBlanket.VOID);
    OneBlanket y = new OneBlanket();
    y.sleeper(4, 6000);
    Due.room(y, "9999");
    Due.is("more than 50", y.window(0), 5);
  }

  private static void across() {
    OneBlanket x = new OneBlanket();
    Due.is("nobody", x.across(0), -5);
    Due.is("BAD ahead of STATE", x.across(2), -1);
    x.sleeper(3010, 3000);
    Due.is("one", x.across(0), 1);
    Due.is("not easy", x.across(1), 0);
    x.cover(0, 1020, 0);
    Due.is("under it", x.across(1), 480);
    x.sleeper(10, 1000);
    Due.is("0 to the left", x.across(0), 12);
    x.sleeper(10, 3000);
    Due.is("2 is not under it", x.across(1), 0);
    Due.is("then the first", x.across(0), 123);
    x.cover(20, 1020, 0);
    Due.is("0 or 2 at the sides, 1 between", x.across(0), 123);
    Due.is("all night", x.across(1), 480);
    x.mend(1, 0, 30);
    x.mend(0, 0, 10);
    Due.is("1 0 2", x.across(0), 213);
    x.mend(2, 0, 10);
    x.mend(0, 0, 30);
    Due.is("0 2 1", x.across(0), 132);
    Due.is("places are as before", x.sleeps(0, 0, 0), 30);
    Due.is("what -1", x.across(-1), -1);
    beyond();
  }

  /** What would be beyond the bed lies at its right edge. */
  private static void beyond() {
    OneBlanket x = new OneBlanket();
    x.wide(20);
    x.sleeper(20, 1000);
    x.sleeper(4, 3000);
    x.cover(16, 520, 0);
    Due.is("at 16, 0 at 0", x.across(0), 12);
    Due.is("0 is easy by its 4 of 20", x.across(1), 480);
    x.mend(1, 0, 10);
    x.mend(0, 0, 14);
    Due.is("1 at 0, 0 held to 0", x.across(0), 21);
  }

  private static void drawn() {
    OneBlanket x = new OneBlanket();
    x.sleeper(1010, 1000);
    x.sleeper(2010, 3030);
    x.cover(5, 3012, 1);
    for (int nh : new int[] {-1, 0, 999, 1101, 1999, 21000, 20101, Integer.MAX_VALUE, Integer.MIN_VALUE}) {
      Due.is("nh " + nh, x.drawn(1, nh, 0, 0), OneBlanket.VOID);
    }
    for (int[] call : new int[][] {{-1, 0}, {2, 0}, {-1, 1}, {1, 1}, {0, -1}, {0, 2}}) {
      Due.is("drawn of " + call[0] + " " + call[1], x.drawn(1, 1000, call[0], call[1]), OneBlanket.VOID);
    }
    x.turn(5, 0, -20);
    Due.is("no told turns", x.drawn(99, 20000, 0, 1), 5);
    Due.is("not easy at 22", x.drawn(99, 20000, 0, 0), 0);
    for (int seed : new int[] {0, 1, -1, 12345, Integer.MAX_VALUE, Integer.MIN_VALUE}) {
      for (int nights = 1; nights <= 4; nights += 3) {
        byTellingThem(seed, nights, 7);
      }
    }
    Due.is("told turns are as before", x.count(2), 1);
    OneBlanket y = new OneBlanket();
    y.cover(-7, 500, 0);
    Due.is("nobody turns", y.drawn(4, 20100, 0, 1), -7);
  }

  /** The same nights by turns that are told (with few enough of them). */
  private static void byTellingThem(int seed, int nights, int odds) {
    int z = seed;
    int easy = 0;
    int left = 0;
    OneBlanket x = new OneBlanket();
    x.sleeper(1010, 1900);
    x.sleeper(2010, 2000);
    x.cover(5, 3012, 1);
    for (int k = 0; k < nights; k++) {
      x.clear();
      for (int m = 0; m < 480; m += 10) {
        for (int s = 0; s < 2; s++) {
          z = z * 1103515245 + 12345;
          if ((z >>> 8) % 100 < odds) {
            z = z * 1103515245 + 12345;
            x.turn(m, s, (z >>> 8) % 21 - 10);
          }
        }
      }
      easy += x.minutes(1, 0);
      left += x.lies(0, 479);
    }
    int nh = 1000 * nights + odds;
    Due.is("easy by " + seed + " " + nh, x.drawn(seed, nh, 1, 0), easy / nights);
    Due.is("left by " + seed + " " + nh, x.drawn(seed, nh, 0, 1), left / nights);
  }

  private static void morning() {
    OneBlanket x = new OneBlanket();
    Due.is("no cover", x.morning(0, 0, 0), -1);
    x.cover(0, 4000, 0);
    Due.is("nobody", x.morning(0, 0, 0), -5);
    Due.is("BAD ahead of STATE", x.morning(0, 100, 0), -1);
    x.sleeper(10, 0);
    x.sleeper(1010, 0);
    x.sleeper(2010, 0);
    x.turn(3, 0, -4);
    x.turn(4, 1, 6);
    x.turn(5, 1, 3);
    x.turn(6, 2, -4);
    Due.is("all together", x.lies(0, 479), -4 + 6 + 3 - 4);
    Due.is("9 is nearest to 20", x.morning(0, 20, 0), 1);
    Due.is("by 11", x.morning(0, 20, 1), 11);
    Due.is("of like ones the first", x.morning(0, -99, 0), 0);
    Due.is("95 off", x.morning(0, -99, 1), 95);
    Due.is("exactly", x.morning(0, 9, 1), 0);
    Due.is("as before", x.lies(0, 479), -4 + 6 + 3 - 4);
    for (int[] call : new int[][] {{-1, 0, 0}, {1, 0, 0}, {0, -100, 0}, {0, 100, 0}, {0, 0, -1}, {0, 0, 2}}) {
      Due.is("morning " + call[0] + " " + call[1] + " " + call[2], x.morning(call[0], call[1], call[2]), -1);
    }
    Due.is("99", x.morning(0, 99, 1), 90);
  }

  private static void film() {
    OneBlanket x = new OneBlanket();
    x.sleeper(1010, 0);
    x.cover(0, 4000, 0);
    x.turn(60, 0, 3);
    x.turn(301, 0, 2);
    x.turn(479, 0, -9);
    x.row(2, 1, 10);
    Due.law(x, "t");
    Due.law(x, "t-1");
    Due.law(x, "!b*t");
    Due.law(x, "h=7?9;t");
    putAll(x, 0, 3, 3, 3, 3, 3, 5, 5, -4);
    Due.is("by LAW 0 and LAW 3", x.film(2), 2 + 16);
    putAll(x, 0, 3, 3, 3, 3, 3, 5, 5, 5);
    Due.is("by none and LAW 2", x.film(2), 1 + 8);
    putAll(x, 0, 2, 2, 2, 2, 2, 3, 3, -5);
    Due.is("by LAW 1", x.film(2), 4);
    putAll(x, 0, 2, 2, 2, 2, 2, 3, 3, -4);
    Due.is("by no law", x.film(2), 0);
    putAll(x, 1, 3, 3, 3, 3, 3, 5, 5, 5);
    Due.is("not at first", x.film(2), 0);
    x.force(1);
    putAll(x, 0, 3, 3, 3, 3, 3, 5, 5, 5);
    Due.is("whatever is in force", x.film(2), 1 + 8);
    Due.is("which stays", x.force(-1), 1);
    x.put(2, 9, 77);
    Due.is("a tenth element does not count", x.film(2), 1 + 8);
  }

  private static void putAll(OneBlanket x, int... values) {
    for (int i = 0; i < values.length; i++) {
      x.put(2, i, values[i]);
    }
  }

  private static void filmRefused() {
    OneBlanket x = new OneBlanket();
    Due.is("shelf -1", x.film(-1), -1);
    Due.is("shelf 6", x.film(6), -1);
    Due.is("nothing", x.film(0), -11);
    x.body(0);
    x.keep(0, 0);
    Due.is("a body", x.film(0), -12);
    x.row(0, 2, 9);
    Due.is("ints", x.film(0), -12);
    x.row(0, 1, 8);
    Due.is("too short", x.film(0), -13);
    x.row(0, 1, 9);
    Due.is("no covers", x.film(0), -5);
    x.cover(0, 500, 0);
    Due.is("it does not move", x.film(0), 1);
  }
}
