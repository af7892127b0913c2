/** The bounds of what is answered in thought: Terms 3, promises 19 to 25. */
public final class EdgeThoughtTest {
  private static final int LEAST = Integer.MIN_VALUE, MOST = Integer.MAX_VALUE;

  public static void main(String[] args) {
    allAsBefore();
    broadBounds();
    broadInItsMinute();
    broadByLaw();
    broadRefused();
    tuckedLeastAndMost();
    tuckedLikeOnes();
    tuckedOfAll();
    tuckedRefused();
    windowLeastAndMost();
    windowLikeOnes();
    windowLeastOfAny();
    windowRefused();
    acrossOneToSix();
    acrossLikeOnes();
    acrossHeld();
    acrossRefused();
    drawnNone();
    drawnAlways();
    drawnNightAfterNight();
    drawnInOrder();
    drawnInChangingRoom();
    drawnCut();
    drawnRefused();
    morningBounds();
    morningLikeOnes();
    morningRefused();
    filmMinutes();
    filmLaws();
    filmOfCoverZero();
    filmRefused();
    Due.end();
  }

  /** "In thought, all as before behind it". */
  private static void allAsBefore() {
    OneBlanket x = new OneBlanket();
    Twins.everything(x);
    Twins.alike("broad", y -> y.broad(0, 100), x.broad(0, 100));
    Twins.alike("broad NOT", y -> {
      y.sleeper(4, 0);
      y.cover(1, 1700, 0);
    }, y -> y.broad(0, 479), -2);
    Twins.alike("tucked", y -> y.tucked(0, 0), x.tucked(0, 0));
    Twins.alike("easy of it", y -> y.tucked(1, 1), x.tucked(1, 1));
    Twins.alike("window", y -> y.window(0), x.window(0));
    Twins.alike("least of it", y -> y.window(1), x.window(1));
    Twins.alike("across", y -> y.across(0), x.across(0));
    Twins.alike("least across", y -> y.across(1), x.across(1));
    Twins.alike("drawn", y -> y.drawn(5, 20100, 0, 0), x.drawn(5, 20100, 0, 0));
    Twins.alike("drawn left", y -> y.drawn(-5, 1050, 1, 1), x.drawn(-5, 1050, 1, 1));
    Twins.alike("morning", y -> y.morning(0, 9, 0), x.morning(0, 9, 0));
    Twins.alike("morning by", y -> y.morning(1, 9, 1), x.morning(1, 9, 1));
    Twins.alike("film", y -> y.film(1), x.film(1));
  }

  /** "the least WIDTH (5 .. 80) of a COVER by which .. no SLEEPER is BARE; NOT". */
  private static void broadBounds() {
    for (int right = 4; right <= 60; right++) {
      for (int left : new int[] {-40, -25, -21, -20, -19, -1, 0}) {
        OneBlanket x = new OneBlanket();
        x.wide(60);
        x.sleeper(100 * (right - 4) + 4, 0);
        x.cover(left, 500, 0);
        int due = right - left > 80 ? -2 : left > right - 4 ? -2 : Math.max(5, right - left);
        Due.is("broad from " + left + " to " + right, x.broad(0, 0), due);
      }
    }
    OneBlanket x = new OneBlanket();
    x.cover(60, 8000, 0);
    Due.is("nobody is bare", x.broad(0, 0), 5);
    x.sleeper(104, 0);
    Due.is("right of who lies there", x.broad(0, 0), -2);
    x.cover(1, 500, 0);
    Due.is("the other one covers all", x.broad(0, 0), 5);
    x.sleeper(2004, 0);
    Due.is("5 to 24, the other is as it is", x.broad(1, 0), 23);
    x.cover(20, 500, 0);
    Due.is("what two cover need not be covered twice", x.broad(1, 0), 5);
    OneBlanket y = new OneBlanket();
    y.cover(0, 500, 0);
    for (int s = 0; s < 6; s++) {
      y.sleeper(600 * s + 4, 0);
      Due.is("to the end of the last of " + s, y.broad(0, 479), Math.max(5, 6 * s + 4));
    }
  }

  /** "in a MINUTE": that one, as its TURNS are done. */
  private static void broadInItsMinute() {
    for (int m : new int[] {0, 1, 240, 479}) {
      OneBlanket x = new OneBlanket();
      x.sleeper(1010, 0);
      x.cover(10, 1000, 9);
      x.turn(m, 0, 5);
      for (int at : new int[] {0, m - 1, m, 479}) {
        if (at >= 0) {
          Due.is("turned in " + m + ", broad in " + at, x.broad(0, at), at < m ? 10 : 15);
        }
      }
    }
  }

  /** By each WIDTH the LAW is asked anew: as by mending it. */
  private static void broadByLaw() {
    for (String law : new String[] {"w-15", "(w<30)*9", "w%4", "20-w", "(w=16)*9"}) {
      OneBlanket x = new OneBlanket();
      x.sleeper(1010, 0);
      x.cover(8, 700, 0);
      x.turn(3, 0, 5);
      x.turn(4, 0, -3);
      Due.law(x, law);
      x.force(0);
      int due = -2;
      for (int width = 80; width >= 5; width--) {
        x.mend(0, 2, width);
        due = x.sleeps(0, 9, 1) == 10 ? width : due;
      }
      x.mend(0, 2, 33);
      Due.is("broad by " + law, x.broad(0, 9), due);
      Due.is("the width is as before", x.of(0, 11), 33);
    }
  }

  /** "BAD; NOT." */
  private static void broadRefused() {
    for (int cover : new int[] {-1, 2, 3, LEAST, MOST}) {
      Twins.alike("broad of " + cover, x -> x.broad(cover, 0), -1);
    }
    for (int minute : new int[] {-1, 480, LEAST, MOST}) {
      Twins.alike("broad in " + minute, x -> x.broad(0, minute), -1);
    }
    Twins.alike("no cover", x -> { }, x -> x.broad(0, 0), -1);
    Twins.alike("no sleeper", x -> x.cover(0, 900, 0), x -> x.broad(0, 479), 5);
  }

  /** Whose EASY MINUTES depend on whether the TUCK is one of some (bits). */
  private static OneBlanket easyByTuck(int bits, int tuck) {
    OneBlanket x = new OneBlanket();
    x.sleeper(10, 3000);
    x.cover(10, 1020, tuck);
    StringBuilder law = new StringBuilder("0");
    for (int k = 0; k <= 9; k++) {
      if ((bits >> k & 1) != 0) {
        law.append("|(k=").append(k).append(')');
      }
    }
    x.turn(100, 0, 1);
    x.turn(100, 0, -1);
    x.turn(100, 0, 10);
    Due.law(x, "m<100?0;(" + law + ")?0;10");
    x.force(0);
    return x;
  }

  /** "the TUCK (0 .. 9)": the least and the last one. */
  private static void tuckedLeastAndMost() {
    for (int k = 0; k <= 9; k++) {
      for (int told : new int[] {0, 5, 9}) {
        OneBlanket x = easyByTuck(1 << k, told);
        Due.is("tucked " + k, x.tucked(0, 0), k);
        Due.is("from 100 on", x.tucked(0, 1), 380);
        Due.is("the tuck is as before", x.of(0, 13), told);
        Due.is("its night too", x.minutes(0, 0), told == k ? 380 : 0);
      }
    }
  }

  /** "(of like ones the least)". */
  private static void tuckedLikeOnes() {
    int[][] rows = {{0, 0}, {1 << 9 | 1 << 8, 8}, {1 << 3 | 1 << 7, 3}, {1 << 1 | 1 << 9, 1}, {3, 0}, {1023, 0}};
    for (int[] row : rows) {
      OneBlanket x = easyByTuck(row[0], 4);
      Due.is("of like ones " + row[0], x.tucked(0, 0), row[1]);
      Due.is("how many " + row[0], x.tucked(0, 1), row[0] == 0 ? 0 : 380);
    }
  }

  /** "EASY MINUTES of all together are most". */
  private static void tuckedOfAll() {
    OneBlanket x = new OneBlanket();
    x.cover(0, 1020, 7);
    Due.is("nobody", x.tucked(0, 0), 0);
    Due.is("0 of nobody", x.tucked(0, 1), 0);
    for (int s = 0; s < 6; s++) {
      x.sleeper(1004, 1000);
      Due.is("all the night of " + s, x.tucked(0, 1), 480 * (s + 1));
    }
    OneBlanket y = new OneBlanket();
    y.sleeper(10, 3000);
    y.sleeper(2010, 1000);
    y.sleeper(2010, 1000);
    y.cover(0, 1020, 2);
    y.turn(120, 0, 20);
    Due.law(y, "20-k*9");
    y.force(0);
    Due.is("the first that keeps off those two", y.tucked(0, 0), 1);
    Due.is("120 of one, 480 of two", y.tucked(0, 1), 120 + 480 + 480);
  }

  /** "BAD." */
  private static void tuckedRefused() {
    for (int cover : new int[] {-1, 2, 3, LEAST, MOST}) {
      Twins.alike("tucked of " + cover, x -> x.tucked(cover, 0), -1);
    }
    for (int what : new int[] {-1, 2, LEAST, MOST}) {
      Twins.alike("tucked what " + what, x -> x.tucked(0, what), -1);
    }
    Twins.alike("no cover", x -> { }, x -> x.tucked(0, 0), -1);
  }

  private static OneBlanket wanting(int degrees, int... wants) {
    OneBlanket x = new OneBlanket();
    for (int want : wants) {
      x.sleeper(4, 100 * want);
    }
    Due.room(x, String.valueOf(degrees));
    return x;
  }

  private static void window(String name, OneBlanket x, int number, int least) {
    Due.is("window " + name, x.window(0), number);
    Due.is("least EASY of " + name, x.window(1), least);
  }

  /** "the number (-9 .. 9) that, more to all degrees, makes the least EASY of any SLEEPER greatest". */
  private static void windowLeastAndMost() {
    for (int want = 10; want <= 50; want++) {
      int off = want - 30;
      boolean can = off >= -14 && off <= 14;
      window("want " + want, wanting(30, want), can ? Math.max(-9, off - 5) : -9, can ? 480 : 0);
    }
    OneBlanket x = wanting(0, 9);
    Due.room(x, "(h=0)*14-(h=1)*5");
    window("of 14 and 0 and -5", x, 9, 420);
    Due.is("as before", x.sleeps(0, 60, 2), -5);
    window("beyond what degrees are held within", wanting(50, 64), 9, 480);
    window("and below", wanting(-50, 0), -9, 0);
    OneBlanket y = wanting(-50, 0);
    y.mend(0, 1, 55 - 9);
    window("-50 and 46 and 0 are -4", y, -1, 480);
    y.mend(0, 1, 65);
    window("-50 and 65 less 9 are 6", y, -9, 0);
    y.mend(0, 1, 64);
    window("-50 and 64 less 9 are 5", y, -9, 480);
  }

  /** "(of like ones the least)". */
  private static void windowLikeOnes() {
    window("-5 .. 5 are alike", wanting(20, 20), -5, 480);
    window("all are alike", wanting(20, 99), -9, 0);
    window("4 .. 6", wanting(20, 29, 21), 4, 480);
    window("but one", wanting(20, 30, 20), 5, 480);
    window("none", wanting(20, 31, 20), -9, 0);
  }

  /** "the least EASY of any SLEEPER": not all together. */
  private static void windowLeastOfAny() {
    OneBlanket x = wanting(0, 0, 0, 0, 12);
    window("three alike and one 12 above", x, -9, 0);
    Due.room(x, "m<200?0;6");
    window("of 200 and 280", x, 1, 200);
    OneBlanket y = wanting(10, 10, 10, 10, 10, 10, 10);
    window("six", y, -5, 480);
    y.mend(5, 0, 19);
    window("the sixth 9 above", y, 4, 480);
    y.mend(5, 0, 99);
    window("the sixth never", y, -9, 0);
  }

  /** "VOID: BAD; STATE is VOID here: no SLEEPERS." */
  private static void windowRefused() {
    for (int what : new int[] {-1, 2, LEAST, MOST}) {
      Twins.alike("window what " + what, x -> x.window(what), OneBlanket.VOID);
      Twins.alike("of nobody, what " + what, x -> { }, x -> x.window(what), OneBlanket.VOID);
    }
    for (int what = 0; what <= 1; what++) {
      int is = what;
      Twins.alike("window of nobody " + what, x -> x.cover(0, 500, 0), x -> x.window(is), OneBlanket.VOID);
    }
    OneBlanket x = wanting(9, 9);
    Due.is("of one", x.window(1), 480);
  }

  /** WARM of who is laid 0th to 5th: so unlike that each WANT is of one place alone. */
  private static final int[] LEVELS = {22, 46, 94, 82, 58, 10};

  private static OneBlanket sixPlaces(int[] order) {
    OneBlanket x = new OneBlanket();
    int[] want = new int[order.length];
    for (int i = 0; i < order.length; i++) {
      want[order[i]] = LEVELS[i];
    }
    for (int s = 0; s < order.length; s++) {
      x.sleeper(3004, 100 * want[s]);
    }
    x.cover(0, 1212, 0);
    x.cover(4, 1224, 0);
    x.cover(8, 1248, 0);
    return x;
  }

  /** "of all orders of SLEEPERS, laid side by side from cell 0 on ..; the first as digits (numbers and 1)". */
  private static void acrossOneToSix() {
    for (int n = 1; n <= 6; n++) {
      tryOrders(n, 0, new int[n], 0);
    }
  }

  private static void tryOrders(int n, int laid, int[] order, int digits) {
    if (laid == n) {
      OneBlanket x = sixPlaces(order);
      Due.is("across " + digits, x.across(0), digits);
      Due.is("all the night " + digits, x.across(1), 480);
      Due.is("as before", x.sleeps(n - 1, 0, 0), 30);
      return;
    }
    for (int s = 0; s < n; s++) {
      boolean lies = false;
      for (int i = 0; i < laid; i++) {
        lies |= order[i] == s;
      }
      if (!lies) {
        order[laid] = s;
        tryOrders(n, laid + 1, order, 10 * digits + s + 1);
      }
    }
  }

  /** "the first": of like ones. */
  private static void acrossLikeOnes() {
    OneBlanket x = new OneBlanket();
    int digits = 0;
    for (int s = 0; s < 6; s++) {
      x.sleeper(3004, 1000);
      digits = 10 * digits + s + 1;
      Due.is("all alike " + digits, x.across(0), digits);
      Due.is("and easy", x.across(1), 480);
    }
    x.cover(0, 520, 0);
    Due.is("no order is better than another", x.across(0), 123456);
    Due.is("one is never easy", x.across(1), 0);
    OneBlanket y = new OneBlanket();
    y.sleeper(3004, 1000);
    y.sleeper(3004, 1000);
    y.sleeper(3004, 3000);
    y.cover(4, 520, 0);
    Due.is("2 in the middle: of two the first", y.across(0), 132);
    Due.is("30 is easy", y.across(1), 480);
  }

  /** "(0 .. WIDE less BREADTH at most)". */
  private static void acrossHeld() {
    OneBlanket x = new OneBlanket();
    x.wide(20);
    x.sleeper(20, 2000);
    x.sleeper(20, 2000);
    x.sleeper(10, 3000);
    x.cover(0, 1020, 0);
    Due.is("20 lie at 0 wherever, 10 at 0 is under it", x.across(0), 312);
    Due.is("all the night is easy", x.across(1), 480);
    OneBlanket y = new OneBlanket();
    y.wide(20);
    y.sleeper(10, 1000);
    y.sleeper(11, 1000);
    y.sleeper(4, 4500);
    y.cover(16, 535, 0);
    Due.is("10 and 11 ahead, held at 16", y.across(0), 123);
    Due.is("who lies from 9 on or 10 on is warmed by 35 * 4 / 11", y.across(1), 0);
    y.mend(1, 0, 22);
    Due.is("12 of it", y.across(0), 123);
    Due.is("all the night", y.across(1), 480);
    y.mend(1, 0, 10);
    y.mend(0, 0, 24);
    Due.is("the other way around", y.across(0), 213);
    Due.is("all the night too", y.across(1), 480);
  }

  /** "BAD; STATE: no SLEEPERS." */
  private static void acrossRefused() {
    Twins.Story none = x -> x.cover(0, 500, 0);
    for (int what : new int[] {-1, 2, LEAST, MOST}) {
      Twins.alike("across what " + what, x -> x.across(what), -1);
      Twins.alike("BAD comes first " + what, none, x -> x.across(what), -1);
    }
    Twins.alike("across of nobody", none, x -> x.across(0), -5);
    Twins.alike("how many of nobody", none, x -> x.across(1), -5);
  }

  private static OneBlanket oneDrawn() {
    OneBlanket x = new OneBlanket();
    x.wide(60);
    x.sleeper(2510, 3000);
    x.cover(10, 4020, 0);
    return x;
  }

  /** n nights of one who is drawn with the odds h, each told on a bed of its own. */
  private static int byTelling(int seed, int n, int h, String law, int what) {
    int z = seed;
    int sum = 0;
    for (int k = 0; k < n; k++) {
      OneBlanket x = oneDrawn();
      Due.law(x, law);
      x.force(law.isEmpty() ? -1 : 0);
      for (int m = 0; m < 480; m += 10) {
        z = z * 1103515245 + 12345;
        if ((z >>> 8) % 100 < h) {
          z = z * 1103515245 + 12345;
          x.turn(m, 0, (z >>> 8) % 21 - 10);
        }
      }
      sum += what == 0 ? x.minutes(0, 0) : x.lies(0, 479);
    }
    return sum / n;
  }

  private static final int[] SEEDS = {0, 1, -1, 255, 256, 65536, 20261119, -7777777, LEAST, MOST};

  /** "H (0 ..": nobody turns; told TURNS do not count. */
  private static void drawnNone() {
    for (int seed : SEEDS) {
      OneBlanket x = oneDrawn();
      x.turn(0, 0, 20);
      x.turn(10, 0, -5);
      for (int n : new int[] {1, 2, 19, 20}) {
        Due.is("EASY of " + seed, x.drawn(seed, 1000 * n, 0, 0), 480);
        Due.is("LEFT of " + seed, x.drawn(seed, 1000 * n, 0, 1), 10);
      }
    }
  }

  /** ".. 100)": in each MINUTE that 10 divides, in no other one; x of 21 less 10; 0 is none. */
  private static void drawnAlways() {
    for (int seed : SEEDS) {
      for (int h : new int[] {1, 2, 50, 99, 100}) {
        for (String law : new String[] {"", "t", "b*3", "m%10*20+(m>0)", "h"}) {
          OneBlanket x = oneDrawn();
          Due.law(x, law);
          x.force(law.isEmpty() ? -1 : 0);
          String told = seed + " with " + h + " by " + law;
          Due.is("EASY of " + told, x.drawn(seed, 1000 + h, 0, 0), byTelling(seed, 1, h, law, 0));
          Due.is("LEFT of " + told, x.drawn(seed, 1000 + h, 0, 1), byTelling(seed, 1, h, law, 1));
        }
      }
    }
  }

  /** "n nights (1 .. 20)": z goes on from night to night, all else begins anew. */
  private static void drawnNightAfterNight() {
    for (int seed : SEEDS) {
      for (int n : new int[] {2, 3, 19, 20}) {
        for (String law : new String[] {"", "t-b*2"}) {
          OneBlanket x = oneDrawn();
          Due.law(x, law);
          x.force(law.isEmpty() ? -1 : 0);
          String told = seed + ", " + n + " nights by " + law;
          Due.is("EASY of " + told, x.drawn(seed, 1000 * n + 60, 0, 0), byTelling(seed, n, 60, law, 0));
          Due.is("LEFT of " + told, x.drawn(seed, 1000 * n + 60, 0, 1), byTelling(seed, n, 60, law, 1));
        }
      }
    }
  }

  /** "each SLEEPER in order": six of them, only the told one's EASY, the told COVER's LEFT. */
  private static void drawnInOrder() {
    for (int seed : SEEDS) {
      OneBlanket x = new OneBlanket();
      OneBlanket y = new OneBlanket();
      for (int s = 0; s < 6; s++) {
        x.sleeper(300 * s + 10, 1500 + 100 * s);
        y.sleeper(300 * s + 10, 1500 + 100 * s);
      }
      for (int c = 0; c < 3; c++) {
        x.cover(5 * c, 1810, c);
        y.cover(5 * c, 1810, c);
      }
      int z = seed;
      for (int m = 0; m < 480; m += 10) {
        for (int s = 0; s < 6; s++) {
          z = z * 1103515245 + 12345;
          if ((z >>> 8) % 100 < 12) {
            z = z * 1103515245 + 12345;
            y.turn(m, s, (z >>> 8) % 21 - 10);
          }
        }
      }
      Due.is("not too many for a bed", y.count(2) < 60 ? 1 : 0, 1);
      for (int s = 0; s < 6; s++) {
        Due.is(seed + " EASY of " + s, x.drawn(seed, 1012, s, 0), y.minutes(s, 0));
      }
      for (int c = 0; c < 3; c++) {
        Due.is(seed + " LEFT of " + c, x.drawn(seed, 1012, c, 1), y.lies(c, 479));
      }
    }
  }

  /** Only in MINUTES that 10 divides, whatever the room does in others. */
  private static void drawnInChangingRoom() {
    String[] rooms = {"m%7*3", "m%10=9?30;10", "m%10=5?9;20", "m%10=1?9;20", "20-h", "m/3%20", "m=479?50;15"};
    for (String room : rooms) {
      for (int seed : SEEDS) {
        OneBlanket x = new OneBlanket();
        x.sleeper(2010, 2500);
        x.cover(12, 2510, 0);
        Due.room(x, room);
        int z = seed;
        for (int m = 0; m < 480; m += 10) {
          z = z * 1103515245 + 12345;
          if ((z >>> 8) % 100 < 70) {
            z = z * 1103515245 + 12345;
            x.turn(m, 0, (z >>> 8) % 21 - 10);
          }
        }
        Due.is(seed + " EASY by " + room, x.drawn(seed, 1070, 0, 0), x.minutes(0, 0));
        Due.is(seed + " LEFT by " + room, x.drawn(seed, 1070, 0, 1), x.lies(0, 479));
      }
    }
  }

  /** "the mean (cut)": toward 0, also below it. */
  private static void drawnCut() {
    boolean above = false;
    boolean below = false;
    for (int seed = 1; seed <= 60; seed++) {
      int sum = 0;
      int z = seed;
      OneBlanket x = new OneBlanket();
      x.sleeper(1810, 0);
      x.cover(0, 4000, 0);
      for (int night = 0; night < 2; night++) {
        x.clear();
        for (int m = 0; m < 480; m += 10) {
          z = z * 1103515245 + 12345;
          if ((z >>> 8) % 100 < 5) {
            z = z * 1103515245 + 12345;
            x.turn(m, 0, (z >>> 8) % 21 - 10);
          }
        }
        sum += x.lies(0, 479);
      }
      Due.is("mean of " + sum, x.drawn(seed, 2005, 0, 1), sum / 2);
      above |= sum > 0 && sum % 2 != 0;
      below |= sum < 0 && sum % 2 != 0;
    }
    Due.is("there were odd sums above and below 0", above && below ? 1 : 0, 1);
  }

  /** "VOID: BAD." */
  private static void drawnRefused() {
    for (int nh : new int[] {-1, 0, 100, 999, -1000, -1100, 1101, 1999, 20101, 20999, 21000, 21100, LEAST, MOST}) {
      Twins.alike("nh " + nh, x -> x.drawn(1, nh, 0, 0), OneBlanket.VOID);
      Twins.alike("nh of left " + nh, x -> x.drawn(1, nh, 0, 1), OneBlanket.VOID);
    }
    for (int number : new int[] {-1, 2, 6, LEAST, MOST}) {
      Twins.alike("sleeper " + number, x -> x.drawn(1, 1000, number, 0), OneBlanket.VOID);
      Twins.alike("cover " + number, x -> x.drawn(1, 1000, number, 1), OneBlanket.VOID);
    }
    for (int what : new int[] {-1, 2, LEAST, MOST}) {
      Twins.alike("drawn what " + what, x -> x.drawn(1, 1000, 0, what), OneBlanket.VOID);
    }
    Twins.alike("nobody", x -> x.cover(7, 500, 0), x -> x.drawn(1, 1000, 0, 0), OneBlanket.VOID);
    Twins.alike("nobody turns", x -> x.cover(7, 500, 0), x -> x.drawn(1, 20100, 0, 1), 7);
    Twins.alike("no cover", x -> x.sleeper(4, 1000), x -> x.drawn(1, 1000, 0, 1), OneBlanket.VOID);
    Twins.alike("without covers", x -> x.sleeper(4, 1000), x -> x.drawn(1, 20100, 0, 0), 480);
  }

  private static void three(OneBlanket x) {
    x.wide(60);
    for (int s = 0; s < 3; s++) {
      x.sleeper(1510 + 1000 * s, 0);
    }
    x.cover(0, 6000, 0);
    x.cover(20, 500, 0);
    Due.law(x, "t");
    x.force(0);
    x.turn(0, 0, -20);
    x.turn(100, 0, -20);
    x.turn(3, 1, 7);
    x.turn(100, 1, -2);
    x.turn(479, 2, 20);
  }

  /** "bring a COVER's LEFT in the end nearest to a told one": -99 .. 99. */
  private static void morningBounds() {
    OneBlanket x = new OneBlanket();
    three(x);
    int[] ends = {-40, 5, 20};
    for (int told = -99; told <= 99; told++) {
      int best = 0;
      for (int s = 1; s < 3; s++) {
        best = Math.abs(ends[s] - told) < Math.abs(ends[best] - told) ? s : best;
      }
      Due.is("told " + told, x.morning(0, told, 0), best);
      Due.is("off " + told, x.morning(0, told, 1), Math.abs(ends[best] - told));
    }
    Due.is("cover 1 at -20", x.morning(1, -99, 0), 0);
    Due.is("79 off", x.morning(1, -99, 1), 79);
    Due.is("cover 1 at 20", x.morning(1, 99, 0), 1);
    Due.is("79 off too", x.morning(1, 99, 1), 79);
  }

  /** "(of like ones the first)". */
  private static void morningLikeOnes() {
    OneBlanket x = new OneBlanket();
    three(x);
    x.clear();
    Due.is("nobody turned", x.morning(0, 9, 0), 0);
    Due.is("9 off", x.morning(0, 9, 1), 9);
    x.turn(0, 1, 4);
    x.turn(0, 2, 4);
    x.turn(0, 5, 20);
    Due.is("1 and 2 are alike", x.morning(0, 9, 0), 1);
    Due.is("5 off", x.morning(0, 9, 1), 5);
    Due.is("2 is as near from either side", x.morning(0, 2, 0), 0);
    Due.is("2 off", x.morning(0, 2, 1), 2);
    OneBlanket y = new OneBlanket();
    y.cover(0, 4000, 0);
    y.sleeper(10, 0);
    y.turn(0, 1, 9);
    Due.is("one alone", y.morning(0, 99, 0), 0);
    Due.is("99 off", y.morning(0, 99, 1), 99);
    for (int s = 1; s < 6; s++) {
      y.sleeper(10, 0);
      y.clear();
      y.turn(0, s, 9);
      Due.is("the last of " + s, y.morning(0, 99, 0), s);
    }
  }

  /** "BAD; STATE: no SLEEPERS." */
  private static void morningRefused() {
    Twins.Story nobody = x -> x.cover(0, 500, 0);
    for (int cover : new int[] {-1, 2, 3, LEAST, MOST}) {
      Twins.alike("cover " + cover, x -> x.morning(cover, 0, 0), -1);
      Twins.alike("cover of nobody's " + cover, nobody, x -> x.morning(cover == 2 ? 1 : cover, 0, 0), -1);
    }
    for (int left : new int[] {-100, 100, LEAST, MOST}) {
      Twins.alike("left " + left, x -> x.morning(0, left, 0), -1);
      Twins.alike("left of nobody's " + left, nobody, x -> x.morning(0, left, 0), -1);
    }
    for (int what : new int[] {-1, 2, LEAST, MOST}) {
      Twins.alike("morning what " + what, x -> x.morning(0, 0, what), -1);
      Twins.alike("what of nobody's " + what, nobody, x -> x.morning(0, 0, what), -1);
    }
    Twins.alike("nobody", nobody, x -> x.morning(0, 99, 0), -5);
    Twins.alike("nobody, how much", nobody, x -> x.morning(0, -99, 1), -5);
    Twins.alike("nothing at all", x -> { }, x -> x.morning(0, 0, 0), -1);
  }

  private static void rowOf(OneBlanket x, int shelf, int size, int... elements) {
    x.row(shelf, 1, size);
    for (int i = 0; i < elements.length; i++) {
      x.put(shelf, i, elements[i]);
    }
  }

  /** "LEFT in MINUTES 0, 60, .. 420, 479": those alone. */
  private static void filmMinutes() {
    int[] minutes = {0, 60, 120, 180, 240, 300, 360, 420, 479};
    for (int m = 0; m < 480; m += m % 60 == 1 ? 57 : 1) {
      OneBlanket x = new OneBlanket();
      x.sleeper(1010, 0);
      x.cover(-5, 4000, 0);
      x.turn(m, 0, 2);
      int[] row = new int[9];
      for (int i = 0; i < 9; i++) {
        row[i] = minutes[i] < m ? -5 : -3;
      }
      for (int size : new int[] {9, 10, 60}) {
        rowOf(x, 5, size, row);
        Due.is("turned in " + m + " of " + size, x.film(5), 1);
      }
      for (int i = 0; i < 9; i++) {
        x.put(5, i, row[i] + 1);
        Due.is("one off at " + i, x.film(5), 0);
        x.put(5, i, row[i]);
      }
    }
    OneBlanket y = new OneBlanket();
    y.sleeper(1010, 0);
    y.cover(0, 4000, 0);
    Due.law(y, "t");
    for (int i = 0; i < 7; i++) {
      y.turn(60 * i + 1, 0, 5);
      y.turn(60 * i + 59, 0, -5);
    }
    rowOf(y, 0, 9);
    Due.is("what is between is not seen, by LAW 0", y.film(0), 2);
  }

  /** "LAWS (bits: 1 none, 2 LAW 0, and so on) by which it is so." */
  private static void filmLaws() {
    for (int laws = 0; laws <= 4; laws++) {
      OneBlanket x = new OneBlanket();
      x.sleeper(1010, 0);
      x.cover(0, 4000, 0);
      x.turn(400, 0, 9);
      for (int i = 0; i < laws; i++) {
        Due.law(x, String.valueOf(i));
      }
      for (int by = 0; by <= 9; by++) {
        rowOf(x, 0, 9, 0, 0, 0, 0, 0, 0, 0, by, by);
        Due.is(laws + " laws, drawn " + by, x.film(0), by == 9 ? 1 : by < laws ? 2 << by : 0);
        x.force(by % (laws + 1) - 1);
      }
      x.clear();
      rowOf(x, 0, 9);
      Due.is("nobody turns, " + laws + " laws", x.film(0), (2 << laws) - 1);
    }
  }

  /** "COVER 0's LEFT", as shorts, also below 0 and far away. */
  private static void filmOfCoverZero() {
    OneBlanket x = new OneBlanket();
    x.cover(-40, 500, 0);
    x.cover(0, 500, 0);
    rowOf(x, 0, 9, -40, -40, -40, -40, -40, -40, -40, -40, -40);
    Due.is("-40", x.film(0), 1);
    rowOf(x, 0, 9);
    Due.is("not cover 1", x.film(0), 0);
    rowOf(x, 0, 9, 65496, -40, -40, -40, -40, -40, -40, -40, -40);
    Due.is("a short keeps its lowest bits", x.film(0), 1);
    OneBlanket y = new OneBlanket();
    y.wide(60);
    y.sleeper(10, 0);
    y.sleeper(5010, 0);
    y.cover(-40, 8000, 0);
    Due.law(y, "t");
    for (int i = 0; i < 5; i++) {
      y.turn(479, 0, -20);
    }
    rowOf(y, 0, 9, -40, -40, -40, -40, -40, -40, -40, -40, -80);
    Due.is("drawn to where nobody is under it any more", y.film(0), 3);
  }

  /** "BAD, -11, -12 (no ROW of shorts), -13 (it has fewer than 9); STATE: no COVERS.", the one named first. */
  private static void filmRefused() {
    Twins.Story uncovered = x -> {
      x.sleeper(4, 0);
      x.body(3);
      x.keep(0, 0);
      x.row(1, 1, 8);
      x.row(2, 1, 0);
      x.row(3, 1, 9);
      x.row(4, 2, 9);
    };
    Twins.Story covered = x -> {
      uncovered.tell(x);
      x.cover(0, 500, 0);
    };
    int[] due = {-12, -13, -13, -5, -12, -11};
    for (int shelf : new int[] {-1, 6, LEAST, MOST}) {
      Twins.alike("no covers, shelf " + shelf, uncovered, x -> x.film(shelf), -1);
      Twins.alike("film of shelf " + shelf, covered, x -> x.film(shelf), -1);
    }
    for (int shelf = 0; shelf < 6; shelf++) {
      int on = shelf;
      Twins.alike("no covers, film of " + shelf, uncovered, x -> x.film(on), due[shelf]);
      Twins.alike("film of " + shelf, covered, x -> x.film(on), shelf == 3 ? 1 : due[shelf]);
    }
    for (int sort = 0; sort <= 4; sort++) {
      for (int size : new int[] {0, 8, 9, 60}) {
        OneBlanket x = new OneBlanket();
        x.row(0, sort, size);
        int first = sort != 1 ? -12 : size < 9 ? -13 : 0;
        Due.is("no covers, sort " + sort + " of " + size, x.film(0), first == 0 ? -5 : first);
        x.cover(0, 500, 0);
        Due.is("sort " + sort + " of " + size, x.film(0), first == 0 ? 1 : first);
      }
    }
  }
}
