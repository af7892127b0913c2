/** Beds of many kinds: the program and the slow telling answer the same. */
public final class AgreesTest {
  private static final int BEDS = 400;
  /** So that all calls on a bed are fewer than the 512 that one object is promised for. */
  private static final int LONGEST = 55;
  private static int z = 20261118;

  private static int upTo(int n) {
    z = z * 1664525 + 1013904223;
    return (z >>> 10) % n;
  }

  private static int within(int least, int most) {
    return least + upTo(most - least + 1);
  }

  public static void main(String[] args) {
    for (int k = 0; k < BEDS; k++) {
      OneBlanket x = new OneBlanket();
      NaiveBed y = new NaiveBed();
      fill(x, y, k);
      compare(x, y, k);
    }
    Due.end();
  }

  private static void fill(OneBlanket x, NaiveBed y, int k) {
    if (upTo(3) > 0) {
      int wide = within(20, 60);
      Due.is(k + " wide", x.wide(wide), y.wide);
      y.wide = wide;
    }
    int sleepers = k % 20 == 0 ? 5 : within(1, 3);
    for (int s = 0; s < sleepers; s++) {
      int breadth = within(4, 20);
      int[] one = {within(0, y.wide - breadth), breadth, within(20, 75), within(0, 40)};
      Due.is(k + " sleeper", x.sleeper(one[0] * 100 + breadth, one[2] * 100 + one[3]), s);
      y.sleepers.add(one);
    }
    int covers = within(1, 3);
    for (int c = 0; c < covers; c++) {
      int[] one = {within(-15, 30), within(5, 50), within(5, 50), upTo(2) * within(0, 9)};
      Due.is(k + " cover", x.cover(one[0], one[1] * 100 + one[2], one[3]), c);
      y.covers.add(one);
    }
    int turns = upTo(3) == 0 ? 60 : within(0, 20);
    for (int i = 0; i < turns; i++) {
      int minute = upTo(4) == 0 ? 60 * upTo(8) : upTo(480);
      int[] one = {minute, upTo(5) == 0 ? upTo(6) : upTo(sleepers), (upTo(2) * 2 - 1) * within(1, 20)};
      Due.is(k + " turn", x.turn(one[0], one[1], one[2]), i);
      y.turns.add(one);
    }
    int laws = upTo(5);
    for (int i = 0; i < laws; i++) {
      String text = text();
      Due.is(k + " law " + text, Due.law(x, text), i);
      y.laws.add(text);
    }
    if (upTo(2) == 0) {
      y.room = upTo(2) == 0 ? text() : within(5, 30) + "-h*" + upTo(3) + (upTo(2) == 0 ? "-m%7" : "");
      Due.is(k + " room " + y.room, Due.room(x, y.room), 1);
    }
    y.inForce = upTo(laws + 1) - 1;
    Due.is(k + " force", x.force(y.inForce), -1);
  }

  private static String text() {
    StringBuilder made = new StringBuilder();
    while (made.length() == 0 || made.length() > LONGEST) {
      made.setLength(0);
      int lines = within(1, 3);
      for (int i = 0; i < lines; i++) {
        made.append(i > 0 ? ";" : "");
        if (upTo(2) == 0) {
          expression(made, 0);
          made.append('?');
        }
        expression(made, 0);
      }
    }
    return made.toString();
  }

  private static void expression(StringBuilder made, int open) {
    boolean compared = false;
    operand(made, open);
    int more = upTo(4);
    for (int i = 0; i < more; i++) {
      String signs = compared ? "+-*/%|&" : "+-*/%|&<=>";
      char sign = signs.charAt(upTo(signs.length()));
      compared = sign != '|' && sign != '&' && (compared || "<=>".indexOf(sign) >= 0);
      made.append(sign);
      operand(made, open);
    }
  }

  private static void operand(StringBuilder made, int open) {
    int kind = upTo(open < 6 ? 10 : 7);
    if (kind < 2) {
      made.append(upTo(2) == 0 ? upTo(10) : upTo(10000));
    } else if (kind < 7) {
      made.append("tuwksbmh".charAt(upTo(8)));
    } else if (kind == 7) {
      made.append('(');
      expression(made, open + 1);
      made.append(')');
    } else {
      made.append(kind == 8 ? '!' : '-');
      operand(made, open + 1);
    }
  }

  private static void compare(OneBlanket x, NaiveBed y, int k) {
    NaiveBed.Seen seen = y.plan().play();
    int n = y.sleepers.size();
    for (int i = 0; i < 12; i++) {
      int m = upTo(480);
      int s = upTo(n);
      int c = upTo(y.covers.size());
      Due.is(k + " lies " + c + " " + m, x.lies(c, m), seen.left[c][m]);
      Due.is(k + " place " + s + " " + m, x.sleeps(s, m, 0), seen.place[s][m]);
      Due.is(k + " covered " + s + " " + m, x.sleeps(s, m, 1), seen.covered[s][m]);
      Due.is(k + " warm " + s + " " + m, x.sleeps(s, m, 2), seen.warm[s][m]);
      Due.is(k + " easy " + s + " " + m, x.sleeps(s, m, 3), y.easy(seen, s, m) ? 1 : 0);
    }
    for (int s = 0; s < n; s++) {
      for (int what = 0; what < 3; what++) {
        Due.is(k + " minutes " + s + " " + what, x.minutes(s, what), y.minutes(seen, s, what));
      }
      Due.is(k + " wakes " + s, x.wakes(s, 0), seen.wokenAt[s]);
      Due.is(k + " woken by " + s, x.wakes(s, 1), seen.wokenBy[s]);
      for (int c = 0; c < y.covers.size(); c++) {
        Due.is(k + " took " + s + c, x.took(10 * s + c), seen.took[s][c]);
      }
    }
    compareInThought(x, y, k);
    int m = upTo(480);
    Due.is(k + " lies behind thought", x.lies(0, m), seen.left[0][m]);
    Due.is(k + " warm behind thought", x.sleeps(0, m, 2), seen.warm[0][m]);
  }

  private static void compareInThought(OneBlanket x, NaiveBed y, int k) {
    int c = upTo(y.covers.size());
    int m = upTo(480);
    Due.is(k + " broad", x.broad(c, m), y.broad(c, m));
    both(k + " tucked", x.tucked(c, 0), x.tucked(c, 1), y.tucked(c));
    both(k + " window", x.window(0), x.window(1), y.window());
    both(k + " across", x.across(0), x.across(1), y.across());
    int told = within(-99, 99);
    both(k + " morning", x.morning(c, told, 0), x.morning(c, told, 1), y.morning(c, told));
    int seed = upTo(1 << 20) * 4001 - 99;
    int odds = within(0, 100);
    int nights = within(1, 4);
    int s = upTo(y.sleepers.size());
    Due.is(k + " drawn 0", x.drawn(seed, 1000 * nights + odds, s, 0), y.drawn(seed, nights, odds, s, 0));
    Due.is(k + " drawn 1", x.drawn(seed, 1000 * nights + odds, c, 1), y.drawn(seed, nights, odds, c, 1));
    NaiveBed.Plan plan = y.plan();
    plan.law = upTo(y.laws.size() + 1) - 1;
    NaiveBed.Seen seen = plan.play();
    long[] row = new long[9];
    x.row(3, 1, 9);
    for (int i = 0; i < 9; i++) {
      row[i] = seen.left[0][Math.min(60 * i, 479)];
      x.put(3, i, row[i]);
    }
    Due.is(k + " film", x.film(3), y.film(row));
    int off = upTo(9);
    row[off]++;
    x.put(3, off, row[off]);
    Due.is(k + " film off", x.film(3), y.film(row));
  }

  private static void both(String call, int got, int gotToo, int[] want) {
    Due.is(call + " 0", got, want[0]);
    Due.is(call + " 1", gotToo, want[1]);
  }
}
