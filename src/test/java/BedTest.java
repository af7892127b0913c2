import java.util.ArrayList;
import java.util.List;

/** Promises 1 to 6, 26, 27 and 37. */
public final class BedTest {
  /** By what of() asks for that which mend() mends: WANT, HEAT, WIDTH, TUCK. */
  private static final int[] CODES = {2, 3, 11, 13};
  private static int z = 11;

  public static void main(String[] args) {
    newBed();
    wide();
    sleepers();
    covers();
    mended();
    asked();
    undone();
    undoneNoMoreThanForty();
    mendedToTheSame();
    sameBehindUndone();
    sameWhileFortyAreKept();
    mendedAsByCopies();
    counted();
    Due.end();
  }

  private static void newBed() {
    OneBlanket x = new OneBlanket();
    for (int what = 0; what <= 7; what++) {
      Due.is("new: count " + what, x.count(what), 0);
    }
    Due.is("new: wide", x.wide(40), 40);
    Due.is("new: force", x.force(-1), -1);
    Due.is("new: undo", x.undo(), -5);
    Due.is("new: redo", x.redo(), -5);
    Due.is("new: taken", x.taken(0, 0), -11);
    OneBlanket other = new OneBlanket();
    x.sleeper(4, 0);
    Due.is("beds are apart", other.count(0), 0);
  }

  private static void wide() {
    OneBlanket x = new OneBlanket();
    Due.is("wide 19", x.wide(19), -1);
    Due.is("wide 61", x.wide(61), -1);
    Due.is("wide min", x.wide(Integer.MIN_VALUE), -1);
    Due.is("wide 20", x.wide(20), 40);
    Due.is("wide 60", x.wide(60), 20);
    Due.is("wide 60 again", x.wide(60), 60);
    Due.is("a sleeper at the right edge", x.sleeper(4020, 0), 0);
    Due.is("wide with sleepers", x.wide(30), -5);
    Due.is("BAD is named ahead of STATE", x.wide(61), -1);
  }

  private static void sleepers() {
    OneBlanket x = new OneBlanket();
    Due.is("breadth 3", x.sleeper(3, 0), -1);
    Due.is("breadth 21", x.sleeper(21, 0), -1);
    Due.is("beyond the bed", x.sleeper(3704, 0), -1);
    Due.is("pb below 0", x.sleeper(-96, 0), -1);
    Due.is("pb far", x.sleeper(Integer.MAX_VALUE, 0), -1);
    Due.is("wh below 0", x.sleeper(4, -1), -1);
    Due.is("wh 10000", x.sleeper(4, 10000), -1);
    Due.is("wh 9999", x.sleeper(4, 9999), 0);
    for (int s = 1; s < 6; s++) {
      Due.is("sleeper " + s, x.sleeper(3604, 9900 + s), s);
    }
    Due.is("BAD ahead of FULL", x.sleeper(3, 0), -1);
    Due.is("a seventh", x.sleeper(4, 0), -3);
    Due.is("still six", x.count(0), 6);
    Due.is("heat of the last", x.of(5, 3), 5);
  }

  private static void covers() {
    OneBlanket x = new OneBlanket();
    Due.is("left -41", x.cover(-41, 500, 0), -1);
    Due.is("left 61", x.cover(61, 500, 0), -1);
    Due.is("width 4", x.cover(0, 499, 0), -1);
    Due.is("width 4, warmth 0", x.cover(0, 400, 0), -1);
    Due.is("width 81", x.cover(0, 8100, 0), -1);
    Due.is("warmth 51", x.cover(0, 551, 0), -1);
    Due.is("ww below 0", x.cover(0, -500, 0), -1);
    Due.is("tuck -1", x.cover(0, 500, -1), -1);
    Due.is("tuck 10", x.cover(0, 500, 10), -1);
    Due.is("cover", x.cover(-40, 8050, 9), 0);
    Due.is("another", x.cover(60, 500, 0), 1);
    Due.is("a third", x.cover(0, 1234, 5), 2);
    Due.is("BAD ahead of FULL", x.cover(0, 499, 0), -1);
    Due.is("a fourth", x.cover(0, 500, 0), -3);
    Due.is("three", x.count(1), 3);
  }

  private static void mended() {
    OneBlanket x = new OneBlanket();
    x.sleeper(210, 4025);
    x.cover(-2, 3412, 1);
    Due.is("want", x.mend(0, 0, 99), 40);
    Due.is("heat", x.mend(0, 1, 0), 25);
    Due.is("width", x.mend(0, 2, 5), 34);
    Due.is("tuck", x.mend(0, 3, 9), 1);
    Due.is("want is", x.of(0, 2), 99);
    Due.is("heat is", x.of(0, 3), 0);
    Due.is("width is", x.of(0, 11), 5);
    Due.is("tuck is", x.of(0, 13), 9);
    Due.is("width 80", x.mend(0, 2, 80), 5);
    int[][] bad = {{0, 0, -1}, {0, 0, 100}, {0, 1, -1}, {0, 1, 100}, {0, 2, 4}, {0, 2, 81}, {0, 3, -1},
        {0, 3, 10}, {1, 0, 1}, {1, 3, 1}, {-1, 0, 1}, {-1, 2, 9}, {0, 4, 1}, {0, -1, 1}};
    for (int[] call : bad) {
      Due.is("mend " + call[0] + " " + call[1] + " " + call[2], x.mend(call[0], call[1], call[2]), -1);
    }
    Due.is("what is refused is no change", x.count(5), 5);
  }

  private static void asked() {
    OneBlanket x = new OneBlanket();
    x.sleeper(712, 3421);
    x.cover(-9, 1750, 3);
    x.turn(479, 5, -20);
    int[] what = {0, 1, 2, 3, 10, 11, 12, 13, 20, 21, 22};
    int[] due = {7, 12, 34, 21, -9, 17, 50, 3, 479, 5, -20};
    for (int i = 0; i < what.length; i++) {
      Due.is("of " + what[i], x.of(0, what[i]), due[i]);
      Due.is("of one that is not there " + what[i], x.of(1, what[i]), OneBlanket.VOID);
      Due.is("of -1 " + what[i], x.of(-1, what[i]), OneBlanket.VOID);
    }
    for (int other : new int[] {-1, 4, 9, 14, 19, 23, Integer.MAX_VALUE, Integer.MIN_VALUE}) {
      Due.is("of 0 " + other, x.of(0, other), OneBlanket.VOID);
    }
    x.lies(0, 479);
    Due.is("the night moves no told left", x.of(0, 10), -9);
  }

  private static void undone() {
    OneBlanket x = new OneBlanket();
    x.sleeper(210, 4025);
    x.cover(0, 2000, 0);
    x.mend(0, 0, 1);
    x.mend(0, 0, 2);
    x.mend(0, 2, 30);
    Due.is("three may be undone", x.count(5), 3);
    Due.is("undo", x.undo(), 2);
    Due.is("width", x.of(0, 11), 20);
    Due.is("want stays", x.of(0, 2), 2);
    Due.is("undo again", x.undo(), 1);
    Due.is("want", x.of(0, 2), 1);
    Due.is("redo", x.redo(), 1);
    Due.is("want again", x.of(0, 2), 2);
    Due.is("redo the last", x.redo(), 0);
    Due.is("width again", x.of(0, 11), 30);
    Due.is("no more", x.redo(), -5);
    x.undo();
    x.undo();
    x.mend(0, 1, 7);
    Due.is("another came behind", x.redo(), -5);
    Due.is("two may be undone", x.count(5), 2);
    Due.is("undo heat", x.undo(), 1);
    Due.is("heat", x.of(0, 3), 25);
    Due.is("undo want", x.undo(), 0);
    Due.is("want at first", x.of(0, 2), 40);
    Due.is("none", x.undo(), -5);
    x.mend(0, 1, 101);
    Due.is("a refused one does not come behind", x.redo(), 1);
  }

  private static void undoneNoMoreThanForty() {
    OneBlanket x = new OneBlanket();
    x.sleeper(210, 0);
    for (int i = 1; i <= 45; i++) {
      x.mend(0, 0, i);
    }
    Due.is("forty are kept", x.count(5), 40);
    for (int i = 39; i >= 0; i--) {
      Due.is("undo " + i, x.undo(), i);
      Due.is("want " + i, x.of(0, 2), i + 5);
    }
    Due.is("the first five stay", x.undo(), -5);
    for (int i = 39; i >= 0; i--) {
      Due.is("redo " + i, x.redo(), i);
    }
    Due.is("want at last", x.of(0, 2), 45);
    Due.is("no more", x.redo(), -5);
  }

  private static void mendedToTheSame() {
    OneBlanket x = new OneBlanket();
    x.sleeper(210, 4025);
    x.cover(-2, 3412, 1);
    int[] are = {40, 25, 34, 1};
    for (int what = 0; what < 4; what++) {
      Due.is("to the same " + what, x.mend(0, what, are[what]), are[what]);
      Due.is("it stays " + what, x.of(0, CODES[what]), are[what]);
      Due.is("no change " + what, x.count(5), 0);
      Due.is("nothing to undo " + what, x.undo(), -5);
      Due.is("nothing to redo " + what, x.redo(), -5);
    }
    x.mend(0, 0, 50);
    Due.is("to what it became", x.mend(0, 0, 50), 50);
    Due.is("one change", x.count(5), 1);
    Due.is("back to what it was is a change", x.mend(0, 0, 40), 50);
    Due.is("two", x.count(5), 2);
    Due.is("undo the way back", x.undo(), 1);
    Due.is("50 again", x.of(0, 2), 50);
    Due.is("undo the way there", x.undo(), 0);
    Due.is("40 again", x.of(0, 2), 40);
  }

  private static void sameBehindUndone() {
    OneBlanket x = new OneBlanket();
    x.sleeper(210, 4025);
    x.mend(0, 0, 50);
    x.mend(0, 1, 30);
    x.undo();
    x.undo();
    x.mend(0, 0, 40);
    x.mend(0, 1, 25);
    Due.is("none to undo", x.count(5), 0);
    Due.is("no other change came behind", x.redo(), 1);
    Due.is("want", x.of(0, 2), 50);
    x.mend(0, 0, 50);
    Due.is("nor then", x.redo(), 0);
    Due.is("heat", x.of(0, 3), 30);
    x.undo();
    x.mend(0, 0, 51);
    Due.is("but then", x.redo(), -5);
  }

  private static void sameWhileFortyAreKept() {
    OneBlanket x = new OneBlanket();
    x.sleeper(210, 0);
    for (int i = 1; i <= 40; i++) {
      x.mend(0, 0, i);
      x.mend(0, 0, i);
    }
    Due.is("forty", x.count(5), 40);
    x.mend(0, 0, 40);
    for (int i = 39; i >= 0; i--) {
      Due.is("undo " + i, x.undo(), i);
    }
    Due.is("none pushed the first one out", x.of(0, 2), 0);
  }

  /** Runs of mend, undo, redo beside a list of copies of all values, the first and one for each change since. */
  private static void mendedAsByCopies() {
    for (int run = 0; run < 80; run++) {
      OneBlanket x = new OneBlanket();
      List<int[]> copies = new ArrayList<>();
      int[] first = new int[12];
      for (int i = 0; i < 3; i++) {
        x.sleeper(210, 505 + 101 * i);
        x.cover(0, 700 + 100 * i, 5 + i);
        System.arraycopy(new int[] {5 + i, 5 + i, 7 + i, 5 + i}, 0, first, 4 * i, 4);
      }
      copies.add(first);
      int now = 0;
      for (int i = 0; i < 160; i++) {
        String at = run + "." + i;
        if (upTo(8) > run % 5) {
          int k = run % 2 == 0 ? upTo(12) : upTo(2);
          int v = 5 + upTo(4);
          int[] next = copies.get(now).clone();
          Due.is(at + " mend", x.mend(k / 4, k % 4, v), next[k]);
          if (next[k] != v) {
            next[k] = v;
            copies.subList(now + 1, copies.size()).clear();
            copies.add(next);
            copies.subList(0, Math.max(0, copies.size() - 41)).clear();
            now = copies.size() - 1;
          }
        } else if (upTo(2) == 0) {
          Due.is(at + " undo", x.undo(), now == 0 ? -5 : now - 1);
          now = Math.max(0, now - 1);
        } else {
          int more = copies.size() - 1 - now;
          Due.is(at + " redo", x.redo(), more == 0 ? -5 : more - 1);
          now += more == 0 ? 0 : 1;
        }
        Due.is(at + " to undo", x.count(5), now);
        int k = upTo(12);
        Due.is(at + " value " + k, x.of(k / 4, CODES[k % 4]), copies.get(now)[k]);
      }
    }
  }

  private static int upTo(int n) {
    z = z * 1664525 + 1013904223;
    return (z >>> 9) % n;
  }

  private static void counted() {
    OneBlanket x = new OneBlanket();
    x.sleeper(4, 0);
    x.cover(0, 500, 0);
    x.cover(0, 500, 0);
    x.turn(0, 0, 1);
    x.turn(0, 0, 1);
    x.turn(0, 0, 1);
    Due.law(x, "t");
    Due.law(x, "u");
    Due.feed(x, "12345");
    x.mend(0, 0, 1);
    x.body(5);
    x.body(7);
    x.act(1, 3, 5);
    int[] due = {1, 2, 3, 2, 5, 1, 2, 8};
    for (int what = 0; what <= 7; what++) {
      Due.is("count " + what, x.count(what), due[what]);
    }
    Due.is("count 8", x.count(8), -1);
    Due.is("count -1", x.count(-1), -1);
  }
}
