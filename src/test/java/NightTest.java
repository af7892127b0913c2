/** Promises 11 to 18: turns, and what the night shows. */
public final class NightTest {
  public static void main(String[] args) {
    turns();
    tosses();
    cleared();
    drawnAlong();
    inOrder();
    heldInBed();
    seen();
    counted();
    wokenByCold();
    wokenByAnother();
    wokenByTheFirst();
    took();
    refused();
    Due.end();
  }

  private static void turns() {
    OneBlanket x = new OneBlanket();
    int[][] bad = {{-1, 0, 1}, {480, 0, 1}, {0, -1, 1}, {0, 6, 1}, {0, 0, 0}, {0, 0, 21}, {0, 0, -21}};
    for (int[] call : bad) {
      Due.is("turn " + call[0] + " " + call[1] + " " + call[2], x.turn(call[0], call[1], call[2]), -1);
    }
    for (int i = 0; i < 60; i++) {
      Due.is("turn " + i, x.turn(479 - i, i % 6, i % 2 == 0 ? 20 : -20), i);
    }
    Due.is("BAD ahead of FULL", x.turn(0, 0, 0), -1);
    Due.is("a 61st", x.turn(0, 0, 1), -3);
    Due.is("60", x.count(2), 60);
    Due.is("as they came", x.of(1, 20), 478);
  }

  private static void tosses() {
    OneBlanket x = new OneBlanket();
    Due.is("shelf -1", x.tosses(-1, 0, 1), -1);
    Due.is("shelf 6", x.tosses(6, 0, 1), -1);
    Due.is("n 0", x.tosses(0, 0, 0), -1);
    Due.is("n 21", x.tosses(0, 0, 21), -1);
    Due.is("a row that is missing", x.tosses(0, 0, 1), 0);
    x.body(0);
    x.keep(1, 0);
    Due.is("a body", x.tosses(1, 0, 1), -12);
    x.row(1, 2, 9);
    Due.is("ints", x.tosses(1, 0, 1), -12);
    Due.is("ints, i below 0", x.tosses(1, -1, 1), -12);
    Due.is("BAD ahead of -12", x.tosses(1, 0, 0), -1);
    x.row(0, 1, 11);
    int[] row = {99, 479, 5, -20, 0, 0, 20, 100, 3, 7, 200};
    for (int i = 0; i < row.length; i++) {
      x.put(0, i, row[i]);
    }
    Due.is("i below 0", x.tosses(0, -1, 3), 0);
    Due.is("i at the end", x.tosses(0, 11, 3), 0);
    Due.is("i far", x.tosses(0, Integer.MAX_VALUE, 20), 0);
    Due.is("i least", x.tosses(0, Integer.MIN_VALUE, 20), 0);
    Due.is("it ends within a three", x.tosses(0, 1, 20), 3);
    Due.is("minute", x.of(0, 20), 479);
    Due.is("sleeper", x.of(0, 21), 5);
    Due.is("cells", x.of(2, 22), 7);
    Due.is("one of them", x.tosses(0, 1, 1), 1);
    Due.is("two", x.tosses(0, 4, 2), 2);
    x.put(0, 5, 6);
    Due.is("the second is not as it may be", x.tosses(0, 1, 20), 1);
    x.put(0, 5, 0);
    x.put(0, 6, 0);
    Due.is("cells 0", x.tosses(0, 4, 20), 0);
    x.put(0, 6, 1);
    x.put(0, 4, -1);
    Due.is("minute below 0", x.tosses(0, 4, 20), 0);
    Due.is("seven came", x.count(2), 7);
    for (int i = 7; i < 58; i++) {
      x.turn(0, 0, 1);
    }
    x.put(0, 4, 8);
    Due.is("FULL within", x.tosses(0, 1, 20), 2);
    Due.is("FULL at once", x.tosses(0, 1, 20), 0);
    Due.is("60", x.count(2), 60);
    x.row(0, 1, 2);
    Due.is("too short a row", x.tosses(0, 0, 1), 0);
    x.row(0, 1, 0);
    Due.is("an empty row", x.tosses(0, 0, 1), 0);
    tossesToTheEnd();
  }

  private static void tossesToTheEnd() {
    OneBlanket x = new OneBlanket();
    x.row(5, 1, 60);
    for (int i = 0; i < 60; i++) {
      x.put(5, i, i % 3 == 1 ? 5 : 7 + i);
    }
    for (int i = 0; i < 20; i++) {
      x.put(5, 3 * i + 2, i - 20);
    }
    Due.is("twenty from place 0", x.tosses(5, 0, 20), 20);
    Due.is("the first", x.of(0, 22), -20);
    Due.is("the last", x.of(19, 22), -1);
    Due.is("one that ends with the row", x.tosses(5, 57, 20), 1);
    for (int i = 58; i <= 64; i++) {
      Due.is("from " + i, x.tosses(5, i, 1), 0);
    }
    x.row(5, 1, 3);
    x.put(5, 2, 9);
    Due.is("a row of one", x.tosses(5, 0, 20), 1);
  }

  private static void cleared() {
    OneBlanket x = new OneBlanket();
    x.sleeper(10, 0);
    x.cover(0, 2000, 0);
    x.turn(0, 0, 4);
    x.turn(9, 0, 4);
    Due.is("lies", x.lies(0, 479), 8);
    Due.is("clear", x.clear(), 2);
    Due.is("none", x.count(2), 0);
    Due.is("of a turn", x.of(0, 20), OneBlanket.VOID);
    Due.is("lies as at first", x.lies(0, 479), 0);
    Due.is("clear none", x.clear(), 0);
    Due.is("numbers from 0 again", x.turn(3, 0, -1), 0);
    Due.is("lies by it", x.lies(0, 479), -1);
  }

  /** The law that is none: t u by BREADTH (cut) less TUCK, at least 0; nothing on the way back. */
  private static void drawnAlong() {
    OneBlanket x = new OneBlanket();
    x.sleeper(1010, 0);
    x.cover(5, 1200, 2);
    x.cover(19, 500, 0);
    x.cover(20, 500, 0);
    x.turn(100, 0, 9);
    x.turn(100, 0, 9);
    x.turn(200, 0, -20);
    x.turn(201, 0, -20);
    Due.is("before", x.lies(0, 99), 5);
    Due.is("9 * 7 / 10 - 2, then 9 * 2 / 10 - 2 is below 0", x.lies(0, 100), 9);
    Due.is("9 * 1 / 10 is cut, 9 * 5 / 10", x.lies(1, 100), 23);
    Due.is("not under it at first, then 9 * 5 / 10", x.lies(2, 100), 24);
    Due.is("the other way: nothing", x.lies(1, 200), 23);
    Due.is("again that way", x.lies(0, 201), 9 - (20 * 9 / 10 - 2));
    Due.is("not under it any more", x.lies(1, 201), 23);
    OneBlanket y = new OneBlanket();
    y.sleeper(10, 0);
    y.cover(30, 500, 0);
    y.turn(0, 0, -5);
    y.turn(1, 0, 20);
    y.turn(2, 0, 15);
    Due.is("a turn under no cover is kept for b", y.lies(0, 2), 30);
    y.turn(3, 0, 10);
    Due.is("and then it draws", y.lies(0, 3), 30 + 10 * 5 / 10);
  }

  /** Turns of one minute in the order in which they came, whenever they came. */
  private static void inOrder() {
    OneBlanket x = new OneBlanket();
    x.sleeper(10, 0);
    x.sleeper(1010, 0);
    x.cover(0, 1000, 0);
    x.turn(50, 1, 5);
    x.turn(20, 0, 8);
    x.turn(50, 0, 2);
    x.turn(20, 1, -20);
    Due.is("minute 20", x.lies(0, 20), 8 - 20 * 8 / 10);
    Due.is("minute 20 place 0", x.sleeps(0, 20, 0), 8);
    Due.is("minute 20 place 1", x.sleeps(1, 20, 0), 0);
    Due.is("minute 50: 1 is turned back, then 0 is under nothing", x.lies(0, 50), -8);
    Due.is("place 1 in minute 50", x.sleeps(1, 50, 0), 5);
    Due.is("place 0 in minute 50", x.sleeps(0, 50, 0), 10);
  }

  private static void heldInBed() {
    OneBlanket x = new OneBlanket();
    x.wide(20);
    x.sleeper(20, 0);
    x.cover(0, 2000, 0);
    x.turn(0, 0, 20);
    x.turn(1, 0, 7);
    x.turn(2, 0, -3);
    Due.is("place is held", x.sleeps(0, 479, 0), 0);
    Due.is("the cover is drawn", x.lies(0, 0), 20);
    Due.is("then it lies over none", x.lies(0, 1), 20);
    OneBlanket y = new OneBlanket();
    y.sleeper(3010, 0);
    y.turn(0, 0, 3);
    y.turn(1, 0, -20);
    y.turn(2, 0, -20);
    Due.is("held right", y.sleeps(0, 0, 0), 30);
    Due.is("20 to the left", y.sleeps(0, 1, 0), 10);
    Due.is("held left", y.sleeps(0, 2, 0), 0);
  }

  private static void seen() {
    OneBlanket x = new OneBlanket();
    x.sleeper(510, 2903);
    x.cover(0, 812, 0);
    x.cover(6, 550, 0);
    x.cover(14, 907, 0);
    Due.is("covered: 5 6 7, 6 .. 10, 14", x.sleeps(0, 0, 1), 7);
    Due.is("warm: 10 + 3 + 12 * 3 / 10 + 50 * 5 / 10 + 7 * 1 / 10", x.sleeps(0, 0, 2), 10 + 3 + 3 + 25);
    Due.is("12 above WANT", x.sleeps(0, 0, 3), 0);
    x.mend(0, 0, 36);
    Due.is("5 above", x.sleeps(0, 0, 3), 1);
    x.mend(0, 0, 35);
    Due.is("6 above", x.sleeps(0, 0, 3), 0);
    x.mend(0, 0, 46);
    Due.is("5 below", x.sleeps(0, 0, 3), 1);
    x.mend(0, 0, 47);
    Due.is("6 below", x.sleeps(0, 0, 3), 0);
    OneBlanket y = new OneBlanket();
    y.wide(20);
    y.sleeper(20, 0);
    y.cover(-3, 500, 0);
    y.cover(18, 500, 0);
    Due.is("beyond the bed nobody lies", y.sleeps(0, 0, 1), 4);
  }

  private static void counted() {
    OneBlanket x = new OneBlanket();
    x.sleeper(10, 2500);
    x.cover(0, 1015, 0);
    x.turn(100, 0, -20);
    x.turn(300, 0, -20);
    Due.is("easy till 99", x.minutes(0, 0), 100);
    Due.is("15 below is not cold", x.minutes(0, 1), 0);
    Due.is("bare from 100 on", x.minutes(0, 2), 380);
    x.mend(0, 0, 26);
    Due.is("16 below is", x.minutes(0, 1), 380);
    x.turn(200, 5, 20);
    Due.is("turns of one who is not there", x.minutes(0, 2), 380);
    Due.room(x, "h=3?30");
    Due.is("easy in the hour 3, and not in the first", x.minutes(0, 0), 60);
    Due.is("cold but for hour 3, and not in the first 100", x.minutes(0, 1), 320);
  }

  private static void wokenByCold() {
    OneBlanket x = new OneBlanket();
    x.sleeper(10, 2600);
    Due.is("the tenth", x.wakes(0, 0), 9);
    Due.is("by cold", x.wakes(0, 1), -1);
    x.mend(0, 0, 25);
    Due.is("not cold", x.wakes(0, 0), -2);
    Due.is("by none", x.wakes(0, 1), -2);
    x.mend(0, 0, 26);
    Due.room(x, "m%10=9?20;10");
    Due.is("nine in a row", x.wakes(0, 0), -2);
    Due.is("432 cold", x.minutes(0, 1), 432);
    Due.room(x, "m=3?20;m=13?20;10");
    Due.is("nine, then ten", x.wakes(0, 0), 23);
    Due.room(x, "m<470?20;10");
    Due.is("ten at the end", x.wakes(0, 0), 479);
    Due.room(x, "m<471?20;10");
    Due.is("nine at the end", x.wakes(0, 0), -2);
  }

  private static void wokenByAnother() {
    OneBlanket x = new OneBlanket();
    x.sleeper(10, 1000);
    x.sleeper(1011, 1000);
    x.cover(0, 2100, 0);
    x.turn(50, 0, -4);
    x.turn(60, 0, -6);
    x.turn(70, 1, 20);
    Due.is("5 of 11 are fewer than half", x.sleeps(1, 50, 1), 7);
    Due.is("woken at 60", x.wakes(1, 0), 60);
    Due.is("by 0", x.wakes(1, 1), 0);
    Due.is("0 not woken by own turns", x.wakes(0, 0), -2);
    OneBlanket y = new OneBlanket();
    y.sleeper(10, 1000);
    y.sleeper(1010, 1000);
    y.cover(0, 2000, 0);
    y.turn(30, 0, -4);
    y.turn(30, 0, -4);
    Due.is("4 and 4 of 10", y.sleeps(1, 30, 1), 2);
    Due.is("no turn takes half", y.wakes(1, 0), -2);
    y.turn(20, 0, -5);
    Due.is("half wakes", y.wakes(1, 0), 20);
    y.turn(10, 1, -10);
    Due.is("one's own turn does not", y.wakes(1, 0), 20);
  }

  private static void wokenByTheFirst() {
    OneBlanket x = new OneBlanket();
    x.sleeper(10, 0);
    x.sleeper(2010, 0);
    x.sleeper(1010, 2600);
    x.cover(0, 1500, 0);
    x.cover(15, 1500, 0);
    x.turn(9, 1, 20);
    x.turn(9, 0, -20);
    Due.is("both in minute 9", x.wakes(2, 0), 9);
    Due.is("by the first of two", x.wakes(2, 1), 1);
    OneBlanket y = new OneBlanket();
    y.sleeper(10, 0);
    y.sleeper(1010, 2600);
    y.cover(0, 2000, 0);
    y.turn(10, 0, -20);
    Due.is("cold came earlier", y.wakes(1, 0), 9);
    Due.is("by cold", y.wakes(1, 1), -1);
    y.turn(9, 0, -20);
    Due.is("in one minute", y.wakes(1, 0), 9);
    Due.is("that one", y.wakes(1, 1), 0);
  }

  private static void took() {
    OneBlanket x = new OneBlanket();
    x.sleeper(10, 0);
    x.sleeper(1010, 0);
    x.cover(0, 2000, 0);
    x.cover(35, 500, 0);
    x.turn(1, 0, -3);
    x.turn(2, 1, 5);
    x.turn(3, 0, -2);
    Due.is("0 took", x.took(0), -3 - 2);
    Due.is("1 took: 7 of 10", x.took(10), 5 * 7 / 10);
    Due.is("of the other nothing", x.took(1), 0);
    Due.is("it lies", x.lies(0, 479), -3 + 3 - 2);
    for (int sc : new int[] {-1, -10, 2, 12, 20, 3, 9, 60, 100, Integer.MAX_VALUE, Integer.MIN_VALUE}) {
      Due.is("took " + sc, x.took(sc), OneBlanket.VOID);
    }
  }

  private static void refused() {
    OneBlanket x = new OneBlanket();
    x.sleeper(10, 0);
    x.cover(0, 2000, 0);
    int[] minutes = {-1, 480, Integer.MAX_VALUE};
    for (int m : minutes) {
      Due.is("lies " + m, x.lies(0, m), OneBlanket.VOID);
      Due.is("sleeps " + m, x.sleeps(0, m, 0), OneBlanket.VOID);
    }
    for (int one : new int[] {-1, 1}) {
      Due.is("lies of " + one, x.lies(one, 0), OneBlanket.VOID);
      Due.is("sleeps of " + one, x.sleeps(one, 0, 0), OneBlanket.VOID);
      Due.is("minutes of " + one, x.minutes(one, 0), -1);
      Due.is("wakes of " + one, x.wakes(one, 0), OneBlanket.VOID);
    }
    Due.is("sleeps what -1", x.sleeps(0, 0, -1), OneBlanket.VOID);
    Due.is("sleeps what 4", x.sleeps(0, 0, 4), OneBlanket.VOID);
    Due.is("minutes what -1", x.minutes(0, -1), -1);
    Due.is("minutes what 3", x.minutes(0, 3), -1);
    Due.is("wakes what -1", x.wakes(0, -1), OneBlanket.VOID);
    Due.is("wakes what 2", x.wakes(0, 2), OneBlanket.VOID);
  }
}
