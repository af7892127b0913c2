/** The bounds of texts: Terms 1 (A TEXT, LAWS, THE ROOM), promises 7 to 10. */
public final class EdgeTextTest {
  private static final int LEAST = Integer.MIN_VALUE, MOST = Integer.MAX_VALUE;
  private static final String OPERANDS = "tuwksbmh0123456789", AHEAD = "(!-", BEHIND = "|&<=>+-*/%";

  public static void main(String[] args) {
    bytesFed();
    tapeFull();
    longestText();
    emptyTape();
    firstByte();
    byteBehindOperand();
    byteBehindSign();
    byteInBrackets();
    byteBehindQuestion();
    noBlanks();
    endsTooEarly();
    digits();
    openAtOnce();
    openNoMore();
    comparedOnce();
    faultOnceOnly();
    faultEmptiesTape();
    faultLeavesAll();
    lawsFull();
    roomTwice();
    wraps();
    byZero();
    towardZero();
    oneOrZero();
    allIsWorkedOut();
    linesThatCount();
    heldWithinTurn();
    drawnToTheLeft();
    noLaw();
    degreesHeld();
    roomsNames();
    minuteAndHour();
    lawsNames();
    forceBounds();
    Due.end();
  }

  private static int law(String text) {
    return Due.law(new OneBlanket(), text);
  }

  private static int room(String text) {
    return Due.room(new OneBlanket(), text);
  }

  /** A text as a law and as the room's: the fault's place, or below 0: none. */
  private static void fault(String text, int place) {
    Due.is("law " + text, law(text), place < 0 ? 0 : -100 - place);
    Due.is("room " + text, room(text), place < 0 ? 1 : -100 - place);
  }

  /** What a text is worth, that comes to -50 .. 50. */
  private static void worth(String text, int due) {
    OneBlanket x = new OneBlanket();
    x.sleeper(4, 0);
    Due.is("room " + text, Due.room(x, text), 1);
    Due.is("worth of " + text, x.sleeps(0, 0, 2), due);
  }

  /** "A byte (0 .. 255) comes to THE TAPE: how many it has. BAD". */
  private static void bytesFed() {
    OneBlanket x = new OneBlanket();
    int[] bytes = {0, 1, 127, 128, 254, 255};
    for (int i = 0; i < bytes.length; i++) {
      Due.is("feed " + bytes[i], x.feed(bytes[i]), i + 1);
      Due.is("on the tape", x.count(4), i + 1);
    }
    for (int letter : new int[] {-1, 256, 256 + 't', 't' - 256, LEAST, MOST}) {
      Twins.alike("feed " + letter, y -> y.feed(letter), -1);
      Twins.alike("feed at first " + letter, y -> { }, y -> y.feed(letter), -1);
    }
  }

  /** "THE TAPE (at most 120 bytes)"; "BAD, FULL (120)." */
  private static void tapeFull() {
    OneBlanket x = new OneBlanket();
    for (int i = 1; i <= 120; i++) {
      Due.is("feed " + i, x.feed('1'), i);
    }
    Due.is("the 121st", x.feed('1'), -3);
    Due.is("it has 120", x.count(4), 120);
    Twins.Story full = y -> Due.feed(y, "1-".repeat(59) + "42");
    Twins.alike("feed a full tape", full, y -> y.feed('1'), -3);
    Twins.alike("BAD comes first", full, y -> y.feed(256), -1);
    Twins.alike("BAD below 0 comes first", full, y -> y.feed(-1), -1);
    Twins.Story one = y -> Due.feed(y, "1-".repeat(59) + "4");
    OneBlanket z = new OneBlanket();
    one.tell(z);
    Due.is("the 120th", z.feed('2'), 120);
  }

  /** 120 bytes are read to the last one. */
  private static void longestText() {
    worth("0-".repeat(59) + "42", -42);
    worth("0?1;".repeat(29) + "0-17", -17);
    worth("1?2;".repeat(29) + "0-17", 2);
    fault("0-".repeat(59) + "42", -1);
    fault("0-".repeat(59) + "4x", 119);
    fault("0-".repeat(59) + "(4", 120);
    fault("0-".repeat(60), 120);
    fault("0-".repeat(59) + "4", -1);
    fault("x".repeat(120), 0);
    worth("-0?" + "1+".repeat(58) + "1", 0);
    worth("-1?" + "1-".repeat(58) + "9", -50);
    worth("-1?" + "1-".repeat(58).replace("-", "*") + "9", 9);
    worth("!1?" + "1+".repeat(58) + "1", 0);
    worth("!0?" + "1*".repeat(58) + "7", 7);
  }

  /** "LINES, one or more": nothing ends too early; one; many; none is empty. */
  private static void emptyTape() {
    fault("", 0);
    fault("t", -1);
    fault("t" + ";t".repeat(59), -1);
    fault(";", 0);
    fault("t;", 2);
    fault("t;;t", 2);
    fault("t;u;", 4);
    fault("t;x", 2);
  }

  private static String sign(int letter) {
    return String.valueOf((char) letter);
  }

  /** All bytes as the first one. */
  private static void firstByte() {
    for (int c = 0; c < 256; c++) {
      int place = OPERANDS.indexOf(c) >= 0 ? -1 : AHEAD.indexOf(c) >= 0 ? 1 : 0;
      fault(sign(c), place);
    }
  }

  private static void byteBehindOperand() {
    for (int c = 0; c < 256; c++) {
      int place = (BEHIND + "?;").indexOf(c) >= 0 ? 2 : 1;
      fault("t" + sign(c), place);
      fault("7" + sign(c), c >= '0' && c <= '9' ? -1 : place);
      fault("(t)" + sign(c), place + 2);
    }
  }

  private static void byteBehindSign() {
    for (char sign : (BEHIND + "?;").toCharArray()) {
      for (int c = 0; c < 256; c++) {
        int place = OPERANDS.indexOf(c) >= 0 ? -1 : AHEAD.indexOf(c) >= 0 ? 3 : 2;
        fault("t" + sign + sign(c), place);
      }
    }
    for (char ahead : "!-".toCharArray()) {
      for (int c = 0; c < 256; c++) {
        fault(ahead + sign(c), OPERANDS.indexOf(c) >= 0 ? -1 : AHEAD.indexOf(c) >= 0 ? 2 : 1);
      }
    }
  }

  private static void byteInBrackets() {
    for (int c = 0; c < 256; c++) {
      fault("(" + sign(c), OPERANDS.indexOf(c) >= 0 || AHEAD.indexOf(c) >= 0 ? 2 : 1);
      fault("(t" + sign(c), c == ')' ? -1 : BEHIND.indexOf(c) >= 0 ? 3 : 2);
    }
  }

  /** "E, or E ? E": one ? a line, a number of lines. */
  private static void byteBehindQuestion() {
    for (int c = 0; c < 256; c++) {
      fault("t?u" + sign(c), c == ';' || BEHIND.indexOf(c) >= 0 ? 4 : 3);
      fault("t;u" + sign(c), c == ';' || c == '?' || BEHIND.indexOf(c) >= 0 ? 4 : 3);
    }
    fault("t?u;w?k;s?b", -1);
    fault("t?u;w?k?s", 7);
    fault("(t)?(u)", -1);
    fault("(t?u)", 2);
    fault("t?(u?w)", 4);
    fault("t?(u;w)", 4);
  }

  /** "No blanks." */
  private static void noBlanks() {
    String text = "(t+1)*2<-w?!k;h";
    fault(text, -1);
    for (int i = 0; i <= text.length(); i++) {
      for (char blank : new char[] {' ', '\t', '\n', '\r', 0}) {
        fault(text.substring(0, i) + blank + text.substring(i), i);
      }
    }
  }

  /** "the length, if it ends too early". */
  private static void endsTooEarly() {
    String text = "(t+1)*2<-w?!k;h";
    boolean[] whole = {false, false, false, false, false, true, false, true, false, false, true, false, false, true,
        false, true};
    for (int length = 0; length <= text.length(); length++) {
      fault(text.substring(0, length), whole[length] ? -1 : length);
    }
  }

  /** "a number (1 to 4 digits)". */
  private static void digits() {
    fault("1", -1);
    fault("12", -1);
    fault("123", -1);
    fault("1234", -1);
    fault("12345", 4);
    fault("00000", 4);
    fault("0000", -1);
    fault("9999", -1);
    fault("t+99999", 6);
    fault("1234+12345", 9);
    fault("(12345)", 5);
    fault("-12345", 5);
    fault("1t", 1);
    fault("1.5", 1);
    worth("9999-9998", 1);
    worth("0009", 9);
    worth("1000-999", 1);
  }

  /** "At most 6 of ( ! - ahead of an O are open at once.": the seventh is the fault. */
  private static void openAtOnce() {
    for (char ahead : AHEAD.toCharArray()) {
      for (int many = 1; many <= 8; many++) {
        String closing = ahead == '(' ? ")".repeat(many) : "";
        fault(String.valueOf(ahead).repeat(many) + "t" + closing, many <= 6 ? -1 : 6);
      }
      fault("((((((" + ahead, 6);
      fault("!!!!!!" + ahead + "t", 6);
      fault("------" + ahead + "t", 6);
      fault("t-------" + ahead, 8);
    }
    fault("(!-(!-t))", -1);
    fault("(!-(!-!t))", 6);
    fault("(!-(!--t))", 6);
    fault("(!-(!-(t)))", 6);
    fault("(t+(t+(t+(t+(t+(t+t))))))", -1);
    fault("(t+(t+(t+(t+(t+(t+(t)))))))", 18);
    fault("(t+(t+(t+(t+(t+(t+!t))))))", 18);
    fault("t?((((((t))))))", -1);
    fault("t?(((((((t)))))))", 8);
    fault("t;!!!!!!!t", 8);
    worth("((((((7))))))", 7);
    worth("!!!!!!7", 1);
    worth("------7", 7);
    worth("!-!-!-7", 0);
    worth("-!-!-!0", -1);
  }

  /** What is closed, and a - between two P, is open no more. */
  private static void openNoMore() {
    fault("!!!!!!t+!!!!!!u", -1);
    fault("((((((t))))))-((((((u))))))", -1);
    fault("t-((((((t))))))", -1);
    fault("t--(((((t)))))", -1);
    fault("t--((((((t))))))", 8);
    fault("(((((t-!t)))))", -1);
    fault("((((((t-!t))))))", 8);
    fault("((((((t-t))))))", -1);
    fault("((((((t-t-t))))))", -1);
    fault("(((((!t+!t)))))", -1);
    fault("-(((((t)))))+!(((((u)))))", -1);
    fault("(t)+(u)+(w)+(k)+(s)+(b)+(m)+(h)", -1);
    fault("!t+!u+!w+!k+!s+!b+!m+!h", -1);
    fault("-t-u-w-k-s-b-m-h", -1);
    fault("(-t)*(-u)*(-w)*((((((k))))))", -1);
    fault("(-t)*(-u)*(-w)*(((((((k)))))))", 21);
  }

  /** "B = S, or S < S, S = S, S > S": one in a B, another behind & or | or in brackets. */
  private static void comparedOnce() {
    for (char one : "<=>".toCharArray()) {
      fault("t" + one + "u", -1);
      for (char other : "<=>".toCharArray()) {
        fault("t" + one + "u" + other + "w", 3);
        fault("t" + one + other + "u", 2);
        fault("t" + one + "u+1" + other + "w", 5);
        fault("(t" + one + "u)" + other + "w", -1);
        fault("(t" + one + "u" + other + "w)", 4);
        fault("t" + one + "u&w" + other + "k", -1);
        fault("t" + one + "u|w" + other + "k", -1);
        fault("t" + one + "u?w" + other + "k", -1);
        fault("t" + one + "u;w" + other + "k", -1);
        fault("t" + one + "(u" + other + "w)", -1);
        fault("t" + one + "u&(w)" + other + "k" + one + "s", 9);
      }
    }
  }

  /** "FAULT: the place (from 0) of the first byte with which no TEXT goes on": of several the first. */
  private static void faultOnceOnly() {
    fault("xx", 0);
    fault("txx", 1);
    fault("t+)(", 2);
    fault("t)+", 1);
    fault("(t))(", 3);
    fault("12345x", 4);
    fault("t;;;", 2);
    fault("t?x?", 2);
    fault("(((((((((((", 6);
    fault(")", 0);
    fault("()", 1);
    fault("t()", 1);
    fault("(t)u", 3);
    fault("(t)(u)", 3);
    fault("tt", 1);
    fault("t!", 1);
    fault("t!u", 1);
    fault("!", 1);
    fault("T", 0);
    fault("t+*u", 2);
    fault("t-*u", 2);
    fault("t|", 2);
    fault("t||u", 2);
    fault("t&&u", 2);
  }

  /** "-100 less its FAULT; THE TAPE is empty then." */
  private static void faultEmptiesTape() {
    OneBlanket x = new OneBlanket();
    x.sleeper(4, 0);
    Due.is("a fault", Due.law(x, "12x45"), -102);
    Due.is("the tape is empty", x.count(4), 0);
    Due.is("the next byte is its first", x.feed('7'), 1);
    Due.is("of that alone a law", x.law(), 0);
    Due.is("empty behind a law", x.count(4), 0);
    Due.is("a fault of the room", Due.room(x, "1+"), -102);
    Due.is("empty behind it", x.count(4), 0);
    Due.is("the room", Due.room(x, "7"), 1);
    Due.is("empty behind the room", x.count(4), 0);
    Due.is("7 degrees", x.sleeps(0, 0, 2), 7);
    Due.is("nothing is no text", x.room(), -100);
    Due.is("nor a law", x.law(), -100);
    Due.is("7 degrees still", x.sleeps(0, 0, 2), 7);
  }

  private static void noTape(OneBlanket x) {
    Twins.everything(x);
    x.law();
  }

  /** Where there is a fault, no LAW comes, and THE ROOM's text stays. */
  private static void faultLeavesAll() {
    Twins.alike("law of nothing", EdgeTextTest::noTape, OneBlanket::law, -100);
    Twins.alike("room of nothing", EdgeTextTest::noTape, OneBlanket::room, -100);
    Twins.alike("a faulty law", EdgeTextTest::noTape, x -> Due.law(x, "t?u?w"), -103);
    Twins.alike("a faulty room", EdgeTextTest::noTape, x -> Due.room(x, "50;"), -103);
  }

  private static void fourLaws(OneBlanket x) {
    x.sleeper(1010, 0);
    x.cover(0, 4000, 0);
    x.turn(9, 0, 9);
    Due.law(x, "1");
    Due.law(x, "2");
    Due.law(x, "3");
    Due.law(x, "4");
  }

  /** "LAWS 0 .. 3, as they come"; "FULL: 4 (it stays)." */
  private static void lawsFull() {
    OneBlanket x = new OneBlanket();
    for (int i = 0; i < 4; i++) {
      Due.is("there are", x.count(3), i);
      Due.is("law " + i, Due.law(x, "t-" + i), i);
      Due.is("the tape is empty", x.count(4), 0);
    }
    Due.is("four", x.count(3), 4);
    Due.is("a fifth", Due.law(x, "t"), -3);
    Due.is("its tape stays", x.count(4), 1);
    Due.is("and goes on", x.feed('+'), 2);
    Due.is("four still", x.count(3), 4);
    Due.is("the room takes it, with its fault", x.room(), -102);
    Twins.alike("a fifth law", y -> {
      fourLaws(y);
      Due.feed(y, "5");
    }, OneBlanket::law, -3);
    Twins.alike("FULL with nothing on the tape", EdgeTextTest::fourLaws, OneBlanket::law, -3);
    Twins.alike("FULL with a fault on the tape", y -> {
      fourLaws(y);
      Due.feed(y, "5+");
    }, OneBlanket::law, -3);
    OneBlanket z = new OneBlanket();
    fourLaws(z);
    for (int i = 0; i < 4; i++) {
      z.force(i);
      Due.is("each is its own", z.lies(0, 9), i + 1);
    }
    OneBlanket w = new OneBlanket();
    Due.law(w, "x");
    Due.law(w, "");
    Due.is("faulty ones take no number", Due.law(w, "t"), 0);
  }

  /** THE ROOM's text is the latest, as often as one comes. */
  private static void roomTwice() {
    OneBlanket x = new OneBlanket();
    x.sleeper(4, 0);
    for (int i = 0; i < 12; i++) {
      Due.is("room " + i, Due.room(x, String.valueOf(i)), 1);
      Due.is("degrees " + i, x.sleeps(0, 479, 2), i);
    }
    Due.is("it is no law", x.count(3), 0);
  }

  /** "Ints that wrap". */
  private static void wraps() {
    String most = "(8192*8192*32-1)";
    worth(most + "+1<0", 1);
    worth(most + ">0", 1);
    worth("-" + most + "-1<0", 1);
    worth("-" + most + "-2=" + most, 1);
    worth("8192*8192*64", 0);
    worth("8192*8192*64+7", 7);
    worth("8192*8192*96=8192*8192*32", 1);
    worth("-(8192*8192*32)=8192*8192*32", 1);
    worth("9999*9999*9999%40", 9999 * 9999 * 9999 % 40);
    worth("9999*9999*9999*9999%40", 9999 * 9999 * 9999 * 9999 % 40);
    worth("(9999*9999*20+9999*9999*20)%40", 9999 * 9999 * 40 % 40);
    worth("8192*8192*64?1;2", 2);
    worth("!(8192*8192*64)", 1);
    worth("8192*8192*64|0", 0);
    worth("8192*8192*64&1", 0);
  }

  /** "/ and % toward 0, by 0 they give 0". */
  private static void byZero() {
    worth("7/0", 0);
    worth("-7/0", 0);
    worth("0/0", 0);
    worth("7%0", 0);
    worth("-7%0", 0);
    worth("0%0", 0);
    worth("7/0+3", 3);
    worth("7%0+3", 3);
    worth("5/(3-3)*9", 0);
    worth("5%(3-3)|2", 1);
    worth("9/m", 0);
    worth("9%h", 0);
    worth("9/(8192*8192*64)", 0);
    worth("0/5", 0);
    worth("0%5", 0);
  }

  private static void towardZero() {
    worth("7/2", 3);
    worth("-7/2", -3);
    worth("7/-2", -3);
    worth("-7/-2", 3);
    worth("7%2", 1);
    worth("-7%2", -1);
    worth("7%-2", 1);
    worth("-7%-2", -1);
    worth("1/2", 0);
    worth("-1/2", 0);
    worth("-1%2", -1);
    worth("8192*8192*32/-1<0", 1);
    worth("8192*8192*32%-1+5", 5);
    worth("8192*8192*32/-1=8192*8192*32", 1);
  }

  /** "| & < = > ! give 1, 0". */
  private static void oneOrZero() {
    worth("0|0", 0);
    worth("0|7", 1);
    worth("7|0", 1);
    worth("7|9", 1);
    worth("0|-7", 1);
    worth("4|3", 1);
    worth("0&0", 0);
    worth("0&7", 0);
    worth("7&0", 0);
    worth("7&9", 1);
    worth("4&3", 1);
    worth("-4&-3", 1);
    worth("3<3", 0);
    worth("2<3", 1);
    worth("-3<-2", 1);
    worth("3=3", 1);
    worth("3=-3", 0);
    worth("3>3", 0);
    worth("4>3", 1);
    worth("-3>-4", 1);
    worth("!0", 1);
    worth("!1", 0);
    worth("!2", 0);
    worth("!-1", 0);
    worth("!!2", 1);
    worth("0|0|5", 1);
    worth("7&9&0", 0);
    worth("7&9&5", 1);
  }

  /** "all is worked out": what stands behind does not hinder; whichever LINE counts, the others do not. */
  private static void allIsWorkedOut() {
    worth("1|1/0", 1);
    worth("0&1/0", 0);
    worth("1/0|1", 1);
    worth("0?1/0;7", 7);
    worth("1?7;1/0", 7);
    worth("0|(0&(1|1/0))|1", 1);
    worth("(1|0)+(0|1)*3", 4);
  }

  /** "The first LINE without a first E, or whose first E is not 0, counts; none: 0." */
  private static void linesThatCount() {
    worth("7", 7);
    worth("7;8", 7);
    worth("0;8", 0);
    worth("1?7;8", 7);
    worth("0?7;8", 8);
    worth("-1?7;8", 7);
    worth("2?7;8", 7);
    worth("0?7", 0);
    worth("0?7;0?8", 0);
    worth("0?7;0?8;0?9;6", 6);
    worth("0?7;1?8;1?9;6", 8);
    worth("0?7;8;1?9", 8);
    worth("1?0;8", 0);
    worth("0|0?7;8", 8);
    worth("1=1?7;8", 7);
    worth("2<1?7;2>1?8;9", 8);
    worth("0?7;5-5?6;9-9", 0);
  }

  private static int drawnBy(String law, int cells) {
    OneBlanket x = new OneBlanket();
    x.wide(60);
    x.sleeper(2510, 0);
    x.cover(-10, 8000, 3);
    x.turn(100, 0, cells);
    Due.is("law " + law, Due.law(x, law), 0);
    x.force(0);
    return x.lies(0, 100) + 10;
  }

  /** "how many cells a COVER is drawn (held within 0 .. t)". */
  private static void heldWithinTurn() {
    for (int t : new int[] {1, 2, 19, 20}) {
      Due.is("t of " + t, drawnBy("t", t), t);
      Due.is("t+1 of " + t, drawnBy("t+1", t), t);
      Due.is("t-1 of " + t, drawnBy("t-1", t), t - 1);
      Due.is("0 of " + t, drawnBy("0", t), 0);
      Due.is("1 of " + t, drawnBy("1", t), 1);
      Due.is("-1 of " + t, drawnBy("-1", t), 0);
      Due.is("9999 of " + t, drawnBy("9999", t), t);
      Due.is("-9999 of " + t, drawnBy("-9999", t), 0);
      Due.is("the least int of " + t, drawnBy("8192*8192*32", t), 0);
      Due.is("the greatest int of " + t, drawnBy("8192*8192*32-1", t), t);
      Due.is("no line of " + t, drawnBy("0?t", t), 0);
    }
  }

  private static void drawnToTheLeft() {
    for (int t : new int[] {1, 2, 19, 20}) {
      Due.is("t of -" + t, drawnBy("t", -t), -t);
      Due.is("t+1 of -" + t, drawnBy("t+1", -t), -t);
      Due.is("t-1 of -" + t, drawnBy("t-1", -t), 1 - t);
      Due.is("-1 of -" + t, drawnBy("-1", -t), 0);
      Due.is("9999 of -" + t, drawnBy("9999", -t), -t);
    }
  }

  /** "none ..: then 0, if b is 1, else t u by BREADTH (cut) less TUCK (0 at least)". */
  private static void noLaw() {
    int[][] rows = {{3, 1, 0, 0}, {4, 1, 0, 1}, {4, 1, 1, 0}, {7, 2, 0, 3}, {7, 2, 2, 1}, {7, 2, 3, 0}, {7, 2, 4, 0},
        {20, 4, 0, 20}, {20, 4, 9, 11}, {20, 1, 9, 0}, {1, 4, 0, 1}, {1, 3, 0, 0}, {20, 3, 9, 6}};
    for (int[] row : rows) {
      for (int way = -1; way <= 1; way += 2) {
        OneBlanket x = new OneBlanket();
        x.sleeper(2004, 0);
        x.cover(way > 0 ? 24 - row[1] : 15 + row[1], 500, row[2]);
        int left = x.of(0, 10);
        x.turn(0, 0, way * row[0]);
        String told = " by " + row[0] + " with " + row[1] + " under, tuck " + row[2];
        Due.is(way + told, x.sleeps(0, 0, 0), Math.max(0, Math.min(36, 20 + way * row[0])));
        Due.is("drawn" + told, x.lies(0, 0) - left, way * row[3]);
        x.turn(1, 0, -way);
        Due.is("nothing on the way back" + told, x.lies(0, 1), x.lies(0, 0));
      }
    }
  }

  /** "THE ROOM: degrees (held within -50 .. 50)". */
  private static void degreesHeld() {
    worth("49", 49);
    worth("50", 50);
    worth("51", 50);
    worth("9999", 50);
    worth("-49", -49);
    worth("-50", -50);
    worth("-51", -50);
    worth("-9999", -50);
    worth("8192*8192*32", -50);
    worth("8192*8192*32-1", 50);
    worth("0?9", 0);
    OneBlanket x = new OneBlanket();
    x.sleeper(4, 99);
    x.sleeper(4, 0);
    Due.room(x, "50");
    Due.is("HEAT is more than what is held", x.sleeps(0, 0, 2), 149);
    Due.is("without it", x.sleeps(1, 0, 2), 50);
  }

  /** "In THE ROOM's text t, u, w, k, s, b are 0." */
  private static void roomsNames() {
    for (char name : "tuwksb".toCharArray()) {
      OneBlanket x = new OneBlanket();
      x.sleeper(4, 0);
      x.sleeper(10, 0);
      x.cover(0, 2000, 5);
      x.turn(60, 1, 5);
      x.turn(60, 1, -5);
      Due.room(x, name + "*7+3");
      Due.is(name + " in the room at first", x.sleeps(1, 0, 2), 3);
      Due.is(name + " in the room", x.sleeps(1, 60, 2), 3);
      Due.is(name + " in the room at the end", x.sleeps(0, 479, 2), 3);
    }
  }

  /** "m THE MINUTE, h m by 60 (cut)". */
  private static void minuteAndHour() {
    for (int m : new int[] {0, 1, 59, 60, 61, 119, 120, 419, 420, 478, 479}) {
      OneBlanket x = new OneBlanket();
      x.sleeper(1010, 0);
      x.cover(0, 4000, 0);
      x.turn(m, 0, 20);
      Due.room(x, "m-(m/40)*40");
      Due.is("m " + m, x.sleeps(0, m, 2), m % 40);
      Due.room(x, "m=" + m);
      Due.is("m is " + m, x.sleeps(0, m, 2), 1);
      Due.room(x, "h");
      Due.is("h in " + m, x.sleeps(0, m, 2), m / 60);
      Due.law(x, "m%20");
      Due.law(x, "h");
      Due.law(x, "m=" + m);
      int[] due = {m % 20, m / 60, 1};
      for (int law = 0; law < 3; law++) {
        x.force(law);
        Due.is("law " + law + " in " + m, x.lies(0, m), due[law]);
      }
    }
  }

  /** "t by how many cells one turns, u .., w its WIDTH, k its TUCK, s the SLEEPER, b ..": the least and the last. */
  private static void lawsNames() {
    int[][] rows = {{'t', 1}, {'t', 20}, {'u', 1}, {'u', 20}, {'w', 5}, {'w', 80}, {'k', 0}, {'k', 9}, {'s', 0},
        {'s', 5}, {'b', 0}, {'b', 1}, {'m', 0}, {'m', 479}, {'h', 0}, {'h', 7}};
    for (int[] row : rows) {
      int sleeper = row[0] == 's' ? row[1] : 2;
      int width = row[0] == 'w' ? row[1] : 30;
      int cells = row[0] == 't' ? row[1] : 3;
      int minute = row[0] == 'm' ? row[1] : row[0] == 'h' ? 60 * row[1] + 30 : 77;
      OneBlanket x = new OneBlanket();
      x.wide(60);
      for (int s = 0; s < 6; s++) {
        x.sleeper(s == sleeper ? 2020 : 4, 0);
      }
      x.cover(row[0] == 'u' && row[1] == 1 ? 39 : 20, 100 * width, row[0] == 'k' ? row[1] : 4);
      x.cover(20, 2500, 6);
      if (row[0] == 'b' && row[1] == 1) {
        x.turn(minute - 1, sleeper, -cells);
      }
      x.turn(minute, sleeper, cells);
      String law = "(" + (char) row[0] + "=" + row[1] + ")*(m=" + minute + ")*99";
      Due.law(x, law);
      x.force(0);
      Due.is(law, x.lies(0, minute), x.of(0, 10) + cells);
      boolean ofCover = row[0] == 'u' && row[1] == 1 || row[0] == 'w' || row[0] == 'k';
      Due.is("of another cover " + law, x.lies(1, minute), ofCover ? 20 : 20 + cells);
      Due.law(x, "(" + (char) row[0] + "=" + (row[1] + 1) + "|(" + (char) row[0] + "<" + row[1] + "))*(m="
          + minute + ")*99");
      x.force(1);
      Due.is("neither more nor less than " + law, x.lies(0, minute), x.of(0, 10));
    }
  }

  /** "A LAW, or none (-1), is IN FORCE: which was. VOID: BAD." */
  private static void forceBounds() {
    for (int law : new int[] {-2, 0, 1, 4, LEAST, MOST}) {
      Twins.alike("no laws, force " + law, x -> { }, x -> x.force(law), OneBlanket.VOID);
    }
    for (int law : new int[] {-2, 2, 3, 4, LEAST, MOST}) {
      Twins.alike("two laws, force " + law, x -> x.force(law), OneBlanket.VOID);
    }
    for (int law : new int[] {-2, 4, 5, LEAST, MOST}) {
      Twins.alike("four laws, force " + law, EdgeTextTest::fourLaws, x -> x.force(law), OneBlanket.VOID);
    }
    OneBlanket x = new OneBlanket();
    fourLaws(x);
    int was = -1;
    for (int law : new int[] {0, 1, 2, 3, -1, 3, 3, 0, -1, -1}) {
      Due.is("force " + law, x.force(law), was);
      was = law;
    }
    OneBlanket y = new OneBlanket();
    Due.law(y, "x");
    Due.is("a faulty text is no law", y.force(0), OneBlanket.VOID);
  }
}
