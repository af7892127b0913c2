/** Promises 7 to 10: the tape, laws, the room, what is in force. */
public final class TextTest {
  public static void main(String[] args) {
    tape();
    faults();
    laws();
    room();
    worths();
    names();
    forced();
    Due.end();
  }

  private static void tape() {
    OneBlanket x = new OneBlanket();
    Due.is("feed -1", x.feed(-1), -1);
    Due.is("feed 256", x.feed(256), -1);
    for (int i = 1; i <= 120; i++) {
      Due.is("feed " + i, x.feed(i == 1 ? 't' : i % 2 == 0 ? '+' : '1'), i);
    }
    Due.is("BAD ahead of FULL", x.feed(256), -1);
    Due.is("the 121st", x.feed('1'), -3);
    Due.is("a text of 120 bytes that ends too early", x.law(), -220);
    Due.is("the tape is empty", x.count(4), 0);
    Due.is("a byte of 0", x.feed(0), 1);
    Due.is("is no text", x.law(), -100);
    Due.is("a byte of 255", x.feed(255), 1);
    Due.is("is none either", x.room(), -100);
    Due.is("the longest text", Due.law(x, "1+".repeat(59) + "11"), 0);
  }

  private static void faults() {
    Object[][] rows = {
      {"", 0}, {"t", -1}, {"t;", 2}, {";t", 0}, {"t;;u", 2}, {"t?", 2}, {"t?u", -1}, {"t?u?w", 3},
      {"(t?u)", 2}, {"t+", 2}, {"t++u", 2}, {"t+-u", -1}, {"t--u", -1}, {"+t", 0}, {"-t", -1}, {"t!u", 1},
      {"!t", -1}, {"!!t", -1}, {"1234", -1}, {"12345", 4}, {"0000", -1}, {"t<u<w", 3}, {"t<u=w", 3},
      {"(t<u)<w", -1}, {"t<u|w>k&s=b", -1}, {"t t", 1}, {" t", 0}, {"tu", 1}, {"t1", 1}, {"1t", 1},
      {"(t", 2}, {"(t;u", 2}, {"t)", 1}, {"()", 1}, {"(t))", 3}, {"x", 0}, {"T", 0}, {"t|", 2}, {"|t", 0},
      {"t&&u", 2}, {"t*", 2}, {"t*/u", 2}, {"t%u%w%k", -1}, {"h?1;m?2;3", -1}, {"?t", 0}, {"t?;u", 2},
      {"((((((t))))))", -1}, {"(((((((t)))))))", 6}, {"!!!!!!t", -1}, {"!!!!!!!t", 6}, {"------t", -1},
      {"-------t", 6}, {"(!-(!-t))", -1}, {"(!-(!-(t)))", 6}, {"(!-(!--t))", 6}, {"(((((!t)))))", -1},
      {"((((((!t))))))", 6}, {"((((((t-u))))))", -1}, {"!!!!!!t+!!!!!!u", -1}, {"!!!!!!t!", 7},
      {"(!t)+(!!!!!!t)", 11}, {"(((((t)))))+((((((u))))))", -1}, {"-t*-u/-w%-k", -1}, {"~t", 0},
      {"t<", 2}, {"t<=u", 2}, {"t>u;", 4}, {"t;u?w;k;9?", 10},
    };
    for (Object[] row : rows) {
      String text = (String) row[0];
      int fault = (Integer) row[1];
      OneBlanket x = new OneBlanket();
      Due.is("law " + text, Due.law(x, text), fault < 0 ? 0 : -100 - fault);
      Due.is("laws behind " + text, x.count(3), fault < 0 ? 1 : 0);
      Due.is("tape behind " + text, x.count(4), 0);
      Due.is("room " + text, Due.room(x, text), fault < 0 ? 1 : -100 - fault);
      Due.is("tape behind the room's " + text, x.count(4), 0);
    }
  }

  private static void laws() {
    OneBlanket x = new OneBlanket();
    for (int i = 0; i < 4; i++) {
      Due.is("law " + i, Due.law(x, "t"), i);
    }
    Due.is("a fifth", Due.law(x, "u+1"), -3);
    Due.is("its tape stays", x.count(4), 3);
    Due.is("the room takes it", x.room(), 1);
    Due.is("the tape is empty", x.count(4), 0);
  }

  private static void room() {
    OneBlanket x = new OneBlanket();
    x.sleeper(4, 3000);
    Due.is("without a text", x.sleeps(0, 0, 2), 10);
    Due.room(x, "m");
    Due.is("m 0", x.sleeps(0, 0, 2), 0);
    Due.is("m 49", x.sleeps(0, 49, 2), 49);
    Due.is("m 479, held", x.sleeps(0, 479, 2), 50);
    Due.room(x, "-m");
    Due.is("held below", x.sleeps(0, 479, 2), -50);
    Due.is("-49", x.sleeps(0, 49, 2), -49);
    Due.is("a fault", Due.room(x, "m+"), -102);
    Due.is("leaves the room", x.sleeps(0, 49, 2), -49);
    Due.room(x, "h");
    Due.is("h at 59", x.sleeps(0, 59, 2), 0);
    Due.is("h at 60", x.sleeps(0, 60, 2), 1);
    Due.is("h at 479", x.sleeps(0, 479, 2), 7);
    Due.room(x, "t+u+w+k+s+b");
    Due.is("the other names are 0", x.sleeps(0, 100, 2), 0);
    Due.room(x, "h<3?30;h=3?7;m%2?5");
    Due.is("the first line", x.sleeps(0, 179, 2), 30);
    Due.is("the second", x.sleeps(0, 180, 2), 7);
    Due.is("the third", x.sleeps(0, 241, 2), 5);
    Due.is("none", x.sleeps(0, 240, 2), 0);
    Due.is("easy by the minute", x.minutes(0, 0), 180);
  }

  /** What a text is worth, told by the room's degrees. */
  private static void worths() {
    Object[][] rows = {
      {"7-2-1", 4}, {"7-(2-1)", 6}, {"2+3*4", 14}, {"(2+3)*4", 20}, {"7/2", 3}, {"-7/2", -3}, {"-7%4", -3},
      {"7%-4", 3}, {"7/0", 0}, {"7%0", 0}, {"5&3", 1}, {"5&0", 0}, {"0|9", 1}, {"0|0", 0}, {"1|0&0", 1},
      {"3<4", 1}, {"4<3", 0}, {"3=3", 1}, {"3=4", 0}, {"4>3", 1}, {"3>3", 0}, {"!0", 1}, {"!9", 0}, {"!!9", 1},
      {"-3+10", 7}, {"-(3+10)", -13}, {"!3+10", 10}, {"1<2+3", 1}, {"2*3<7&1", 1}, {"24/4*2", 12},
      {"24/4/2", 3}, {"29%10%4", 1}, {"0?7;9", 9}, {"1?7;9", 7}, {"0?7", 0}, {"-1?7;9", 7}, {"0?1;0?2;3;4", 3},
      {"9999*9999*9999*9999%100", 1}, {"9999*9999*22/9999/9999", -20}, {"0007", 7}, {"12;13", 12},
      {"(1<2)+(2<3)", 2}, {"0|5+1", 1}, {"--8", 8}, {"-!0", -1}, {"!-0", 1}, {"(((8)))", 8},
      {"m=5", 0}, {"3-5", -2}, {"3*-2", -6}, {"1?0;9", 0},
    };
    for (Object[] row : rows) {
      String text = (String) row[0];
      OneBlanket x = new OneBlanket();
      x.sleeper(4, 0);
      Due.is("room " + text, Due.room(x, text), 1);
      Due.is("worth of " + text, x.sleeps(0, 0, 2), (Integer) row[1]);
    }
    least();
  }

  /** The least int by -1 is itself again, and leaves nothing. */
  private static void least() {
    String least = "(8192*8192*32)";
    OneBlanket x = new OneBlanket();
    x.sleeper(4, 0);
    Due.room(x, least + "/(0-1)<0");
    Due.is("least by -1", x.sleeps(0, 0, 2), 1);
    Due.room(x, least + "/-1=" + least);
    Due.is("is itself", x.sleeps(0, 0, 2), 1);
    Due.room(x, "7+" + least + "%-1");
    Due.is("and leaves 0", x.sleeps(0, 0, 2), 7);
    Due.room(x, "-" + least + "=" + least);
    Due.is("less itself", x.sleeps(0, 0, 2), 1);
  }

  /** Each name, told by how far cover 1 is drawn by sleeper 1. */
  private static void names() {
    Object[][] rows = {
      {"t", 20}, {"u", 3}, {"w", 9}, {"k", 2}, {"s", 1}, {"b", 0}, {"m%100", 19}, {"h", 5}, {"t+1", 20},
      {"-1", 0}, {"9999", 20}, {"0", 0}, {"b?7;12", 12},
    };
    for (Object[] row : rows) {
      OneBlanket x = new OneBlanket();
      x.sleeper(3010, 0);
      x.sleeper(508, 0);
      x.cover(50, 500, 0);
      x.cover(-1, 900, 2);
      x.turn(319, 1, 20);
      Due.law(x, (String) row[0]);
      x.force(0);
      Due.is("drawn by " + row[0], x.lies(1, 319), -1 + (Integer) row[1]);
      Due.is("before " + row[0], x.lies(1, 318), -1);
      Due.is("the other by " + row[0], x.lies(0, 479), 50);
    }
    OneBlanket x = new OneBlanket();
    x.sleeper(1010, 0);
    x.cover(0, 4000, 0);
    Due.law(x, "b*3");
    x.force(0);
    x.turn(0, 0, 5);
    x.turn(1, 0, 5);
    x.turn(2, 0, -5);
    x.turn(3, 0, -5);
    x.turn(4, 0, 5);
    int[] due = {0, 0, -3, -3, 0};
    for (int m = 0; m < due.length; m++) {
      Due.is("b in minute " + m, x.lies(0, m), due[m]);
    }
  }

  private static void forced() {
    OneBlanket x = new OneBlanket();
    Due.is("force 0 without laws", x.force(0), OneBlanket.VOID);
    Due.is("force -2", x.force(-2), OneBlanket.VOID);
    Due.law(x, "t");
    Due.law(x, "0");
    Due.is("force 0", x.force(0), -1);
    Due.is("force 1", x.force(1), 0);
    Due.is("force 2", x.force(2), OneBlanket.VOID);
    Due.is("force none", x.force(-1), 1);
    Due.is("force none again", x.force(-1), -1);
  }
}
