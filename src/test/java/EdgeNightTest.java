/** The bounds of turns and of the night: Terms 2, TURNS FROM A ROW of Terms 4, promises 11 to 18. */
public final class EdgeNightTest {
  private static final int LEAST = Integer.MIN_VALUE, MOST = Integer.MAX_VALUE;

  public static void main(String[] args) {
    minuteBounds();
    sleeperBounds();
    cellsBounds();
    turnsFull();
    turnOfNone();
    tossedHowMany();
    tossRefused();
    tossFromWhere();
    tossRowEnds();
    tossNotAsItMayBe();
    tossTurnsFull();
    clearNoneOneSixty();
    lowestAndLastMinute();
    inTheOrderTheyCame();
    cameInWhateverOrder();
    overAnyCell();
    askedAheadOfMoving();
    placeHeld();
    keptForBack();
    firstTurnIsNotBack();
    coveredNoneToAll();
    coveredOnce();
    bedsEdges();
    warmIsCut();
    easyWithinFive();
    coldMoreThanFifteen();
    bareByOneCell();
    minutesAsTurnsAreDone();
    minutesInParts();
    tenthCold();
    coldInTwoParts();
    halfOfBreadth();
    halfByOneTurn();
    halfByAnother();
    wokenByTheFirst();
    coldAndTurnInOneMinute();
    tookEachWay();
    refusedAsking();
    askingChangesNothing();
    Due.end();
  }

  private static void ofTurn(OneBlanket x, int k, int minute, int sleeper, int cells) {
    Due.is("MINUTE of " + k, x.of(k, 20), minute);
    Due.is("SLEEPER of " + k, x.of(k, 21), sleeper);
    Due.is("CELLS of " + k, x.of(k, 22), cells);
  }

  /** "a MINUTE (0 .. 479)". */
  private static void minuteBounds() {
    for (int minute : new int[] {0, 1, 478, 479}) {
      OneBlanket x = new OneBlanket();
      Due.is("minute " + minute, x.turn(minute, 0, 1), 0);
      ofTurn(x, 0, minute, 0, 1);
    }
    for (int minute : new int[] {-1, 480, 481, LEAST, MOST}) {
      Twins.alike("minute " + minute, x -> x.turn(minute, 0, 1), -1);
    }
  }

  /** "a SLEEPER (0 .. 5, there or not ..". */
  private static void sleeperBounds() {
    OneBlanket x = new OneBlanket();
    for (int s = 0; s < 6; s++) {
      Due.is("sleeper " + s, x.turn(7, s, 1), s);
      ofTurn(x, s, 7, s, 1);
    }
    for (int s : new int[] {-1, 6, LEAST, MOST}) {
      Twins.alike("sleeper " + s, y -> y.turn(0, s, 1), -1);
    }
  }

  /** "CELLS (-20 .. 20, not 0 ..". */
  private static void cellsBounds() {
    for (int cells = -25; cells <= 25; cells++) {
      boolean may = cells != 0 && Math.abs(cells) <= 20;
      OneBlanket x = new OneBlanket();
      Due.is("cells " + cells, x.turn(7, 3, cells), may ? 0 : -1);
      Due.is("they are " + cells, x.of(0, 22), may ? cells : OneBlanket.VOID);
    }
    for (int cells : new int[] {0, -21, 21, LEAST, MOST}) {
      Twins.alike("cells " + cells, x -> x.turn(0, 0, cells), -1);
    }
  }

  private static void turns(OneBlanket x, int many) {
    x.sleeper(1010, 0);
    x.cover(0, 4000, 0);
    for (int i = 0; i < many; i++) {
      x.turn(479 - i, i % 6, i % 2 == 0 ? 1 : -1);
    }
  }

  /** "TURNS 0 .. 59, as they come"; "BAD, FULL: 60." */
  private static void turnsFull() {
    OneBlanket x = new OneBlanket();
    for (int i = 0; i < 60; i++) {
      Due.is("there are", x.count(2), i);
      Due.is("turn " + i, x.turn(479 - i, i % 6, 1 + i % 20), i);
    }
    for (int i = 0; i < 60; i++) {
      ofTurn(x, i, 479 - i, i % 6, 1 + i % 20);
    }
    Twins.alike("a 61st", y -> turns(y, 60), y -> y.turn(0, 0, 1), -3);
    Twins.alike("minute BAD comes first", y -> turns(y, 60), y -> y.turn(480, 0, 1), -1);
    Twins.alike("sleeper BAD comes first", y -> turns(y, 60), y -> y.turn(0, 6, 1), -1);
    Twins.alike("cells BAD comes first", y -> turns(y, 60), y -> y.turn(0, 0, 0), -1);
  }

  /** "there or not: then it is none". */
  private static void turnOfNone() {
    OneBlanket x = new OneBlanket();
    x.sleeper(10, 0);
    x.cover(0, 2000, 0);
    x.turn(5, 1, -20);
    x.turn(6, 1, 10);
    Due.is("nobody turns", x.lies(0, 479), 0);
    Due.is("nobody wakes", x.wakes(0, 0), -2);
    Due.is("1 comes", x.sleeper(1010, 0), 1);
    Due.is("now it is one", x.lies(0, 5), -20);
    Due.is("and the next is back", x.lies(0, 479), -20);
    Due.is("0 wakes by 1", x.wakes(0, 1), 1);
  }

  private static void rowOf(OneBlanket x, int shelf, int... elements) {
    x.row(shelf, 1, elements.length);
    for (int i = 0; i < elements.length; i++) {
      x.put(shelf, i, elements[i]);
    }
  }

  private static void threes(OneBlanket x, int many) {
    x.sleeper(10, 0);
    x.row(2, 1, 3 * many);
    for (int i = 0; i < many; i++) {
      x.put(2, 3 * i, 10 + i);
      x.put(2, 3 * i + 1, i % 6);
      x.put(2, 3 * i + 2, i % 2 == 0 ? 20 : -20);
    }
  }

  /** "n (1 .. 20) of them: how many came". */
  private static void tossedHowMany() {
    for (int n : new int[] {1, 2, 19, 20}) {
      OneBlanket x = new OneBlanket();
      threes(x, 20);
      Due.is("n " + n, x.tosses(2, 0, n), n);
      Due.is("came", x.count(2), n);
      ofTurn(x, 0, 10, 0, 20);
      ofTurn(x, n - 1, 9 + n, (n - 1) % 6, n % 2 == 1 ? 20 : -20);
      Due.is("no more came", x.of(n, 20), OneBlanket.VOID);
      Due.is("the row stays", x.element(2, 0), 10);
    }
    for (int n : new int[] {0, -1, 21, LEAST, MOST}) {
      Twins.alike("n " + n, x -> threes(x, 20), x -> x.tosses(2, 0, n), -1);
    }
  }

  /** "BAD, -12 (no ROW of shorts; a SHELF that holds nothing is missing)": the one named first. */
  private static void tossRefused() {
    for (int shelf : new int[] {-1, 6, LEAST, MOST}) {
      Twins.alike("shelf " + shelf, x -> x.tosses(shelf, 0, 1), -1);
    }
    for (int i : new int[] {0, -1, 60, LEAST, MOST}) {
      Twins.alike("nothing there, from " + i, x -> x.tosses(5, i, 1), 0);
      Twins.alike("a body, from " + i, x -> x.tosses(0, i, 1), -12);
      Twins.alike("longs, from " + i, x -> x.tosses(2, i, 1), -12);
      Twins.alike("n BAD comes first, from " + i, x -> x.tosses(0, i, 0), -1);
      Twins.alike("n BAD of nothing, from " + i, x -> x.tosses(5, i, 21), -1);
    }
    for (int sort = 0; sort <= 4; sort++) {
      int is = sort;
      Twins.Story rows = x -> {
        x.row(0, is, 6);
        x.put(0, 2, 1);
        x.put(0, 5, 1);
      };
      OneBlanket x = new OneBlanket();
      rows.tell(x);
      Due.is("sort " + sort, x.tosses(0, 0, 2), sort == 1 ? 2 : -12);
      if (sort != 1) {
        Twins.alike("a row of sort " + sort, rows, y -> y.tosses(0, 0, 2), -12);
      }
    }
  }

  /** "from place i on"; "0 with i below 0"; where the row ends. */
  private static void tossFromWhere() {
    for (int i : new int[] {-1, -3, LEAST, 60, 61, MOST, MOST - 1, MOST - 2}) {
      Twins.alike("from " + i, x -> threes(x, 20), x -> x.tosses(2, i, 20), 0);
    }
    for (int i = 0; i <= 60; i++) {
      OneBlanket x = new OneBlanket();
      x.row(0, 1, 60);
      for (int k = 0; k < 60; k++) {
        x.put(0, k, 1 + k % 5);
      }
      Due.is("of 60 from " + i, x.tosses(0, i, 20), Math.min(20, (60 - i) / 3));
    }
    for (int i = 0; i <= 6; i++) {
      OneBlanket x = new OneBlanket();
      rowOf(x, 0, 1, 2, 3, 4, 5, 5);
      Due.is("from " + i, x.tosses(0, i, 20), i == 0 ? 2 : i <= 3 ? 1 : 0);
      Due.is("MINUTE from " + i, x.of(0, 20), i <= 3 ? 1 + i : OneBlanket.VOID);
    }
  }

  /** "it ends where the row .. ends (within a three, too)". */
  private static void tossRowEnds() {
    for (int size = 0; size <= 60; size++) {
      OneBlanket x = new OneBlanket();
      x.row(1, 1, size);
      for (int i = 2; i < size; i += 3) {
        x.put(1, i, 7);
      }
      Due.is("a row of " + size, x.tosses(1, 0, 20), size / 3);
      Due.is("came", x.count(2), size / 3);
      Due.is("from the last three", x.tosses(1, Math.max(0, size / 3 * 3 - 3), 20), size < 3 ? 0 : 1);
    }
    Twins.alike("a row of none", x -> x.row(0, 1, 0), x -> x.tosses(0, 0, 20), 0);
    Twins.alike("a row of one", x -> rowOf(x, 0, 7), x -> x.tosses(0, 0, 20), 0);
    Twins.alike("a row of two", x -> rowOf(x, 0, 7, 1), x -> x.tosses(0, 0, 20), 0);
  }

  /** "it ends where .. one is not as it may be .. those ahead came". */
  private static void tossNotAsItMayBe() {
    int[][] may = {{0, 0, 1}, {479, 5, 20}, {0, 5, -20}, {479, 0, -1}};
    int[][] mayNot = {{-1, 0, 1}, {480, 0, 1}, {0, -1, 1}, {0, 6, 1}, {0, 0, 0}, {0, 0, 21}, {0, 0, -21},
        {32767, 0, 1}, {-32768, 0, 1}, {0, 32767, 1}, {0, 0, -32768}};
    for (int[] one : may) {
      OneBlanket x = new OneBlanket();
      rowOf(x, 0, one);
      Due.is("as it may be", x.tosses(0, 0, 20), 1);
      ofTurn(x, 0, one[0], one[1], one[2]);
    }
    for (int[] one : mayNot) {
      String told = " " + one[0] + " " + one[1] + " " + one[2];
      Twins.alike("the first is not" + told, x -> rowOf(x, 0, one), x -> x.tosses(0, 0, 20), 0);
      for (int at = 0; at < 3; at++) {
        OneBlanket x = new OneBlanket();
        rowOf(x, 0, 9, 1, 1, 9, 1, 2, 9, 1, 3);
        for (int i = 0; i < 3; i++) {
          x.put(0, 3 * at + i, one[i]);
        }
        Due.is(at + " is not" + told, x.tosses(0, 0, 20), at);
        Due.is("those ahead came", x.count(2), at);
        Due.is("the one behind alone", x.tosses(0, 6, 1), at == 2 ? 0 : 1);
      }
    }
    OneBlanket x = new OneBlanket();
    rowOf(x, 0, 65536 + 9, 65536 + 5, 65536 - 20);
    Due.is("shorts keep their lowest bits", x.tosses(0, 0, 1), 1);
    ofTurn(x, 0, 9, 5, -20);
  }

  /** "it ends where .. TURNS are FULL: those ahead came." */
  private static void tossTurnsFull() {
    for (int room = 0; room <= 21; room++) {
      OneBlanket x = new OneBlanket();
      threes(x, 20);
      for (int i = 0; i < 60 - room; i++) {
        x.turn(0, 0, 1);
      }
      Due.is("room for " + room, x.tosses(2, 0, 20), Math.min(20, room));
      Due.is("there are then", x.count(2), Math.min(60, 80 - room));
    }
    OneBlanket y = new OneBlanket();
    threes(y, 20);
    Due.is("20", y.tosses(2, 0, 20), 20);
    Due.is("20 more", y.tosses(2, 0, 20), 20);
    Due.is("the last 20", y.tosses(2, 0, 20), 20);
    Due.is("FULL", y.tosses(2, 0, 20), 0);
    Due.is("FULL, one", y.tosses(2, 0, 1), 0);
    Due.is("60", y.count(2), 60);
  }

  /** "TURNS are none: how many there were." */
  private static void clearNoneOneSixty() {
    Twins.alike("clear none", x -> turns(x, 0), OneBlanket::clear, 0);
    for (int many : new int[] {1, 2, 59, 60}) {
      OneBlanket x = new OneBlanket();
      turns(x, many);
      Due.is("clear " + many, x.clear(), many);
      Due.is("none", x.count(2), 0);
      Due.is("not one", x.of(0, 20), OneBlanket.VOID);
      Due.is("nobody turned", x.lies(0, 479), 0);
      Due.is("clear again", x.clear(), 0);
      for (int i = 0; i < 60; i++) {
        Due.is("from 0 again", x.turn(3, 0, 1), i);
      }
      Due.is("then FULL", x.turn(3, 0, 1), -3);
    }
  }

  /** "THE NIGHT: MINUTES 0 .. 479, from where all lie; as one begins its TURNS are done". */
  private static void lowestAndLastMinute() {
    for (int m : new int[] {0, 1, 239, 478, 479}) {
      OneBlanket x = new OneBlanket();
      x.sleeper(1010, 0);
      x.cover(2, 3000, 0);
      x.turn(m, 0, 5);
      for (int at : new int[] {0, m - 1, m, m + 1, 479}) {
        if (at >= 0 && at <= 479) {
          Due.is("lies in " + at, x.lies(0, at), at < m ? 2 : 7);
          Due.is("sleeps in " + at, x.sleeps(0, at, 0), at < m ? 10 : 15);
        }
      }
    }
    OneBlanket x = new OneBlanket();
    x.sleeper(1010, 0);
    x.cover(2, 3000, 0);
    Due.is("without turns", x.lies(0, 0), 2);
    Due.is("to the end", x.lies(0, 479), 2);
    Due.is("who sleeps there", x.sleeps(0, 479, 0), 10);
  }

  /** "in the order in which they came", of one MINUTE; the MINUTES in theirs. */
  private static void inTheOrderTheyCame() {
    OneBlanket x = new OneBlanket();
    x.sleeper(3010, 0);
    x.sleeper(10, 0);
    x.turn(7, 0, 15);
    x.turn(7, 0, -20);
    x.turn(7, 0, 3);
    Due.is("held at 30, then 20 to the left, then 3", x.sleeps(0, 7, 0), 13);
    x.turn(6, 0, -20);
    Due.is("10, 25, 5, 8", x.sleeps(0, 7, 0), 8);
    x.turn(6, 0, -20);
    Due.is("10, 0, 15, 0, 3", x.sleeps(0, 7, 0), 3);
    x.turn(6, 1, 20);
    x.turn(5, 1, 20);
    Due.is("20", x.sleeps(1, 5, 0), 20);
    Due.is("held at 30", x.sleeps(1, 6, 0), 30);
  }

  /** Of later MINUTES some may have come ahead; those of one MINUTE are done as they came. */
  private static void cameInWhateverOrder() {
    int z = 3;
    for (int bed = 0; bed < 60; bed++) {
      OneBlanket x = new OneBlanket();
      x.sleeper(1010, 0);
      int[] minute = new int[60];
      int[] cells = new int[60];
      int many = bed < 40 ? 2 + bed % 6 : 60;
      for (int k = 0; k < many; k++) {
        z = z * 1664525 + 1013904223;
        minute[k] = (z >>> 9) % (bed % 2 == 0 ? 3 : 12);
        cells[k] = (z >>> 20) % 20 + 1;
        cells[k] = (z >>> 8 & 1) == 0 ? cells[k] : -cells[k];
        Due.is("turn " + k, x.turn(minute[k], 0, cells[k]), k);
      }
      int place = 10;
      for (int m = 0; m < 12; m++) {
        for (int k = 0; k < many; k++) {
          place = minute[k] == m ? Math.max(0, Math.min(30, place + cells[k])) : place;
        }
        Due.is("bed " + bed + " in " + m, x.sleeps(0, m, 0), place);
      }
      Due.is("as they came", x.of(many - 1, 20), minute[many - 1]);
    }
  }

  /** "each COVER that lies over any of one's cells is drawn that way": by one cell, or not at all. */
  private static void overAnyCell() {
    int[][] rows = {{9, 5, 0}, {10, 5, 0}, {11, 5, 1}, {15, 5, 5}, {24, 5, 1}, {25, 5, 0}, {26, 5, 0}, {-40, 55, 0},
        {-40, 56, 1}, {24, 80, 1}, {25, 80, 0}, {16, 5, 5}, {-40, 80, 10}};
    for (int[] row : rows) {
      for (int cells = -3; cells <= 3; cells += 6) {
        OneBlanket x = new OneBlanket();
        x.sleeper(1510, 0);
        x.cover(row[0], 100 * row[1], 9);
        Due.law(x, "t");
        Due.law(x, "u");
        x.force(0);
        x.turn(1, 0, cells);
        String told = row[0] + " wide " + row[1] + " by " + cells;
        Due.is("covered from " + told, x.sleeps(0, 0, 1), row[2]);
        Due.is("drawn from " + told, x.lies(0, 1) - row[0], row[2] > 0 ? cells : 0);
        x.force(1);
        int way = cells < 0 ? -1 : 1;
        Due.is("drawn by u from " + told, x.lies(0, 1) - row[0], way * Math.min(row[2], 3));
      }
    }
  }

  /** "(all asked ahead of any that moves); then one's PLACE": u is by where one lay, for each COVER. */
  private static void askedAheadOfMoving() {
    OneBlanket x = new OneBlanket();
    x.sleeper(10, 0);
    x.cover(0, 800, 0);
    x.cover(6, 600, 0);
    x.cover(10, 2000, 0);
    Due.law(x, "u");
    x.force(0);
    x.turn(0, 0, 20);
    Due.is("8 under the first", x.lies(0, 0), 8);
    Due.is("4 under the second", x.lies(1, 0), 6 + 4);
    Due.is("none under the third, though then one lies there", x.lies(2, 0), 10);
    Due.is("there", x.sleeps(0, 0, 0), 20);
  }

  /** "held within the bed (0 .. WIDE less BREADTH)". */
  private static void placeHeld() {
    for (int wide : new int[] {20, 40, 60}) {
      for (int breadth : new int[] {4, 20}) {
        int last = wide - breadth;
        for (int place : new int[] {0, last / 2, last}) {
          for (int cells = -20; cells <= 20; cells++) {
            if (cells != 0) {
              OneBlanket x = new OneBlanket();
              x.wide(wide);
              x.sleeper(100 * place + breadth, 0);
              x.turn(0, 0, cells);
              int due = Math.max(0, Math.min(last, place + cells));
              Due.is(wide + " " + breadth + " " + place + " by " + cells, x.sleeps(0, 0, 0), due);
            }
          }
        }
      }
    }
  }

  /** "What turned is kept for b also if nothing moved." */
  private static void keptForBack() {
    OneBlanket x = new OneBlanket();
    x.sleeper(4, 0);
    x.cover(0, 3000, 0);
    Due.law(x, "b*5");
    x.force(0);
    x.turn(0, 0, -7);
    x.turn(1, 0, 7);
    Due.is("held at the edge, nothing drawn, yet it counts", x.lies(0, 1), 5);
    OneBlanket y = new OneBlanket();
    y.sleeper(10, 0);
    y.cover(20, 500, 0);
    Due.law(y, "b*5");
    y.force(0);
    y.turn(0, 0, -1);
    y.turn(2, 0, 20);
    y.turn(4, 0, -1);
    Due.is("under no cover at the edge", y.lies(0, 2), 20);
    Due.is("and back again", y.lies(0, 4), 19);
    y.clear();
    y.turn(0, 0, 20);
    y.turn(1, 0, -1);
    y.turn(2, 0, -1);
    y.turn(3, 0, 1);
    Due.is("back", y.lies(0, 1), 19);
    Due.is("not back", y.lies(0, 2), 19);
    Due.is("back once more", y.lies(0, 3), 20);
  }

  /** "b 1, if one turns the other way than in one's TURN ahead (0: the first one)", each for oneself. */
  private static void firstTurnIsNotBack() {
    OneBlanket x = new OneBlanket();
    x.sleeper(10, 0);
    x.sleeper(2010, 0);
    x.cover(0, 4000, 0);
    Due.law(x, "b*5");
    x.force(0);
    x.turn(0, 0, 9);
    x.turn(1, 1, -9);
    x.turn(2, 1, 9);
    Due.is("the first one", x.lies(0, 0), 0);
    Due.is("another one's first", x.lies(0, 1), 0);
    Due.is("that one's second", x.lies(0, 2), 5);
    Due.is("each night anew", x.lies(0, 0), 0);
    OneBlanket y = new OneBlanket();
    y.sleeper(1010, 0);
    y.cover(0, 4000, 0);
    y.turn(0, 0, 6);
    y.turn(0, 0, -6);
    y.turn(0, 0, -6);
    Due.is("also within a minute: 6, nothing, 6 back", y.lies(0, 0), 0);
  }

  /** "COVERED: how many of one's cells some COVER lies over.", none to all. */
  private static void coveredNoneToAll() {
    for (int breadth = 4; breadth <= 20; breadth += 8) {
      for (int left = -40; left <= 60; left++) {
        OneBlanket x = new OneBlanket();
        x.sleeper(1000 + breadth, 0);
        x.cover(left, 1000, 0);
        int due = Math.max(0, Math.min(10 + breadth, left + 10) - Math.max(10, left));
        Due.is("covered " + breadth + " from " + left, x.sleeps(0, 0, 1), due);
        Due.is("bare " + breadth + " from " + left, x.minutes(0, 2), due < breadth ? 480 : 0);
      }
    }
    OneBlanket x = new OneBlanket();
    x.sleeper(4, 0);
    Due.is("without covers", x.sleeps(0, 0, 1), 0);
    Due.is("bare without covers", x.minutes(0, 2), 480);
  }

  private static void coveredOnce() {
    OneBlanket x = new OneBlanket();
    x.sleeper(520, 0);
    x.cover(0, 1010, 0);
    x.cover(7, 510, 0);
    Due.is("5 .. 11", x.sleeps(0, 0, 1), 7);
    x.cover(10, 1010, 0);
    Due.is("5 .. 19", x.sleeps(0, 0, 1), 15);
    Due.is("each warms by its own: 10 * 5 / 20, 10 * 5 / 20, 10 * 10 / 20", x.sleeps(0, 0, 2), 10 + 2 + 2 + 5);
  }

  /** "0 the leftmost": the first and the last cell of the bed; beyond it nobody lies. */
  private static void bedsEdges() {
    for (int wide : new int[] {20, 60}) {
      OneBlanket x = new OneBlanket();
      x.wide(wide);
      x.sleeper(4, 0);
      x.sleeper(100 * (wide - 4) + 4, 0);
      x.cover(-4, 500, 0);
      x.cover(wide - 1, 500, 0);
      Due.is("cell 0", x.sleeps(0, 0, 1), 1);
      Due.is("the last cell of " + wide, x.sleeps(1, 0, 1), 1);
      OneBlanket y = new OneBlanket();
      y.wide(wide);
      y.sleeper(4, 0);
      y.sleeper(100 * (wide - 4) + 4, 0);
      y.cover(-5, 500, 0);
      y.cover(wide > 55 ? 60 : wide, 500, 0);
      Due.is("left of cell 0", y.sleeps(0, 0, 1), 0);
      Due.is("right of the last", y.sleeps(1, 0, 1), 0);
    }
    OneBlanket x = new OneBlanket();
    x.wide(60);
    x.sleeper(20, 0);
    x.sleeper(2020, 0);
    x.sleeper(4020, 0);
    x.cover(-10, 8050, 0);
    for (int s = 0; s < 3; s++) {
      Due.is("all cells of 60", x.sleeps(s, 0, 1), 20);
    }
    x.turn(0, 1, 20);
    Due.is("drawn far", x.lies(0, 0), 10);
    Due.is("the left half", x.sleeps(0, 0, 1), 10);
  }

  /** "for each COVER WARMTH u by BREADTH (cut)": each is cut for itself. */
  private static void warmIsCut() {
    OneBlanket x = new OneBlanket();
    x.sleeper(1007, 5);
    x.cover(0, 1101, 0);
    Due.is("1 * 1 / 7", x.sleeps(0, 0, 2), 15);
    x.cover(0, 1150, 0);
    Due.is("50 * 1 / 7", x.sleeps(0, 0, 2), 15 + 7);
    x.cover(0, 1349, 0);
    Due.is("49 * 3 / 7", x.sleeps(0, 0, 2), 15 + 7 + 21);
    OneBlanket y = new OneBlanket();
    y.sleeper(4, 0);
    y.cover(0, 503, 0);
    y.cover(-1, 503, 0);
    y.cover(-2, 503, 0);
    Due.is("3 + 3 + 3 * 3 / 4", y.sleeps(0, 0, 2), 10 + 3 + 3 + 2);
    OneBlanket z = new OneBlanket();
    z.sleeper(10, 99);
    z.cover(0, 8050, 0);
    z.cover(0, 8000, 0);
    Due.room(z, "50");
    Due.is("50 and 99 and 50 and 0", z.sleeps(0, 0, 2), 199);
    Due.room(z, "-50");
    z.mend(0, 1, 0);
    Due.is("-50 and 50", z.sleeps(0, 0, 2), 0);
  }

  /** "EASY: .. WARM is within 5 of WANT." */
  private static void easyWithinFive() {
    for (int off = -20; off <= 20; off++) {
      OneBlanket x = new OneBlanket();
      x.sleeper(4, 5040 + off);
      boolean easy = off >= -5 && off <= 5;
      Due.is("WARM is " + off + " more", x.sleeps(0, 0, 3), easy ? 1 : 0);
      Due.is("in the last minute", x.sleeps(0, 479, 3), easy ? 1 : 0);
      Due.is("EASY minutes of " + off, x.minutes(0, 0), easy ? 480 : 0);
    }
  }

  /** "COLD: WARM is more than 15 below WANT." */
  private static void coldMoreThanFifteen() {
    for (int off = -20; off <= 20; off++) {
      OneBlanket x = new OneBlanket();
      x.sleeper(4, 5040 + off);
      Due.is("COLD minutes of " + off, x.minutes(0, 1), off < -15 ? 480 : 0);
      Due.is("wakes of " + off, x.wakes(0, 0), off < -15 ? 9 : -2);
      Due.is("by whom of " + off, x.wakes(0, 1), off < -15 ? -1 : -2);
    }
  }

  /** "BARE: not all cells COVERED." */
  private static void bareByOneCell() {
    for (int left = -1; left <= 1; left++) {
      OneBlanket x = new OneBlanket();
      x.sleeper(5, 0);
      x.cover(left, 500, 0);
      Due.is("BARE minutes from " + left, x.minutes(0, 2), left == 0 ? 0 : 480);
    }
  }

  /** "a MINUTE (as its TURNS are done)": the minute of a turn counts as it is behind it. */
  private static void minutesAsTurnsAreDone() {
    for (int m : new int[] {0, 1, 240, 479}) {
      OneBlanket x = new OneBlanket();
      x.sleeper(10, 3000);
      x.cover(0, 1020, 0);
      Due.law(x, "0");
      x.force(0);
      x.turn(m, 0, 10);
      Due.is("EASY till " + m, x.minutes(0, 0), m);
      Due.is("COLD from " + m, x.minutes(0, 1), 480 - m);
      Due.is("BARE from " + m, x.minutes(0, 2), 480 - m);
      Due.is("EASY in it", x.sleeps(0, m, 3), 0);
      Due.is("woken by cold", x.wakes(0, 0), m > 470 ? -2 : m + 9);
      x.turn(m, 0, -10);
      Due.is("and back within it: EASY", x.minutes(0, 0), 480);
      Due.is("not COLD", x.minutes(0, 1), 0);
      Due.is("not BARE", x.minutes(0, 2), 0);
    }
  }

  /** "how many MINUTES": all of the night together. */
  private static void minutesInParts() {
    OneBlanket x = new OneBlanket();
    x.sleeper(10, 3000);
    x.cover(0, 1020, 0);
    Due.law(x, "0");
    x.force(0);
    int[] minutes = {20, 50, 100, 101, 200, 479};
    for (int i = 0; i < minutes.length; i++) {
      x.turn(minutes[i], 0, i % 2 == 0 ? 10 : -10);
    }
    int away = 30 + 1 + 279;
    Due.is("EASY", x.minutes(0, 0), 480 - away);
    Due.is("COLD", x.minutes(0, 1), away);
    Due.is("BARE", x.minutes(0, 2), away);
    Due.room(x, "m%2*10");
    Due.is("EASY each second minute under it", x.minutes(0, 0), 240 - 15 - 139);
    Due.room(x, "m%2*20");
    Due.is("COLD each second minute without it", x.minutes(0, 1), 15 + 1 + 140);
    Due.is("BARE as before", x.minutes(0, 2), away);
  }

  private static int coldWakes(String room) {
    OneBlanket x = new OneBlanket();
    x.sleeper(4, 3000);
    Due.is("room " + room, Due.room(x, room), 1);
    Due.is("by cold, or none, " + room, x.wakes(0, 1), x.wakes(0, 0) == -2 ? -2 : -1);
    return x.wakes(0, 0);
  }

  /** "the first MINUTE that is the tenth COLD one in a row". */
  private static void tenthCold() {
    Due.is("from 0 on", coldWakes("0"), 9);
    Due.is("nine at first", coldWakes("m<9?0;30"), -2);
    Due.is("ten at first", coldWakes("m<10?0;30"), 9);
    Due.is("nine", coldWakes("(m>99)&(m<109)?0;30"), -2);
    Due.is("ten", coldWakes("(m>99)&(m<110)?0;30"), 109);
    Due.is("eleven", coldWakes("(m>99)&(m<111)?0;30"), 109);
    Due.is("the last ten", coldWakes("m>469?0;30"), 479);
    Due.is("the last nine", coldWakes("m>470?0;30"), -2);
    Due.is("of two times ten the first", coldWakes("m/10%2=1?0;30"), 19);
    Due.is("nine and nine", coldWakes("m=9?30;(m<19)?0;30"), -2);
    Due.is("nine, then ten", coldWakes("m=9?30;(m<20)?0;30"), 19);
    Due.is("each tenth is warm", coldWakes("m%10=0?30;0"), -2);
    Due.is("each eleventh is", coldWakes("m%11=0?30;0"), 10);
    Due.is("cold of other degrees each minute", coldWakes("m%7-3"), 9);
    Due.is("15 below in one of them", coldWakes("m=5?15;14"), 15);
  }

  /** Cold in a row goes on through turns that leave one cold. */
  private static void coldInTwoParts() {
    OneBlanket x = new OneBlanket();
    x.sleeper(10, 3000);
    x.turn(4, 0, 3);
    x.turn(8, 0, 3);
    x.turn(9, 0, 3);
    Due.is("turns do not interrupt it", x.wakes(0, 0), 9);
    x.cover(24, 620, 0);
    x.clear();
    x.turn(5, 0, 20);
    x.turn(6, 0, -20);
    Due.law(x, "0");
    x.force(0);
    Due.is("10 + 20 * 6 / 10 in minute 5", x.sleeps(0, 5, 2), 22);
    Due.is("then ten more", x.wakes(0, 0), 15);
  }

  private static OneBlanket pairUnder(int breadth) {
    OneBlanket x = new OneBlanket();
    x.sleeper(4, 0);
    x.sleeper(2000 + breadth, 1000);
    x.cover(0, 100 * (20 + breadth), 0);
    for (int law = 8; law <= 11; law++) {
      Due.law(x, String.valueOf(law));
    }
    return x;
  }

  /** "makes COVERED less by half of BREADTH or more (cells twice that are BREADTH or more)". */
  private static void halfOfBreadth() {
    for (int breadth = 4; breadth <= 20; breadth++) {
      for (int drawn = 1; drawn <= 11; drawn++) {
        OneBlanket x = new OneBlanket();
        x.sleeper(4, 0);
        x.sleeper(2000 + breadth, 1000);
        x.cover(0, 100 * (20 + breadth), 0);
        Due.law(x, String.valueOf(drawn));
        x.force(0);
        x.turn(77, 0, -20);
        int lost = Math.min(breadth, drawn);
        Due.is("covered of " + breadth, x.sleeps(1, 77, 1), breadth - lost);
        boolean wakes = 2 * lost >= breadth;
        Due.is(breadth + " less by " + drawn, x.wakes(1, 0), wakes ? 77 : -2);
        Due.is("by whom", x.wakes(1, 1), wakes ? 0 : -2);
        Due.is("not the one who turns", x.wakes(0, 0), -2);
      }
    }
  }

  /** Two turns that each take less than half wake nobody; what comes back is no loss. */
  private static void halfByOneTurn() {
    OneBlanket x = pairUnder(20);
    x.force(1);
    x.turn(5, 0, -20);
    x.turn(5, 0, -20);
    Due.is("9 and 9 of 20 in a minute", x.sleeps(1, 5, 1), 2);
    Due.is("wake nobody", x.wakes(1, 0), -2);
    x.force(2);
    Due.is("10 of 20 do", x.wakes(1, 0), 5);
    OneBlanket y = new OneBlanket();
    y.sleeper(10, 1000);
    y.sleeper(1010, 1000);
    y.cover(-20, 3000, 0);
    y.turn(5, 0, 20);
    Due.is("covered more", y.sleeps(1, 5, 1), 10);
    Due.is("is no loss", y.wakes(1, 0), -2);
    y.turn(6, 1, 20);
    Due.is("one's own turn is none", y.wakes(1, 0), -2);
    Due.is("nor does it take from the other", y.wakes(0, 0), -2);
  }

  /** "in which a TURN of another one": not one's own, not of one who is not there. */
  private static void halfByAnother() {
    OneBlanket x = new OneBlanket();
    x.sleeper(10, 1000);
    x.cover(0, 1000, 0);
    x.turn(5, 0, 20);
    x.turn(6, 0, -20);
    x.turn(7, 3, -20);
    Due.law(x, "0");
    x.force(0);
    Due.is("all lost", x.sleeps(0, 5, 1), 0);
    Due.is("by oneself", x.wakes(0, 0), -2);
    for (int by = 0; by < 6; by++) {
      OneBlanket y = new OneBlanket();
      for (int s = 0; s < 6; s++) {
        y.sleeper(604, 1000);
      }
      y.cover(6, 500, 0);
      y.turn(11, by, 4);
      for (int s = 0; s < 6; s++) {
        Due.is(s + " by " + by, y.wakes(s, 0), s == by ? -2 : 11);
        Due.is(s + " woken by", y.wakes(s, 1), s == by ? -2 : by);
      }
    }
  }

  /** "(both in one MINUTE: that one, the first)"; the first MINUTE of several. */
  private static void wokenByTheFirst() {
    OneBlanket x = new OneBlanket();
    x.sleeper(10, 1000);
    x.sleeper(1010, 1000);
    x.sleeper(2010, 1000);
    x.cover(0, 1500, 0);
    x.cover(15, 1500, 0);
    x.turn(30, 2, 20);
    x.turn(30, 0, -20);
    Due.is("in 30", x.wakes(1, 0), 30);
    Due.is("by the first of them", x.wakes(1, 1), 2);
    x.turn(29, 0, -20);
    Due.is("an earlier one", x.wakes(1, 0), 29);
    Due.is("by that one", x.wakes(1, 1), 0);
    for (int m : new int[] {0, 479}) {
      x.clear();
      x.turn(m, 2, 20);
      Due.is("in " + m, x.wakes(1, 0), m);
      Due.is("by 2", x.wakes(1, 1), 2);
    }
  }

  private static void coldAndTurnInOneMinute() {
    for (int m = 8; m <= 11; m++) {
      OneBlanket x = new OneBlanket();
      x.sleeper(10, 1000);
      x.sleeper(1010, 2600);
      x.cover(0, 2000, 0);
      x.turn(m, 0, -20);
      Due.is("cold in 9, turned in " + m, x.wakes(1, 0), Math.min(9, m));
      Due.is("by whom", x.wakes(1, 1), m <= 9 ? 0 : -1);
    }
  }

  /** "TOOK: by how many cells a COVER has moved in one's TURNS (below 0: to the left)." */
  private static void tookEachWay() {
    OneBlanket x = new OneBlanket();
    x.sleeper(1010, 0);
    x.sleeper(2010, 0);
    x.cover(0, 4000, 0);
    x.cover(-20, 500, 0);
    Due.law(x, "t");
    x.force(0);
    Due.is("no turns", x.took(0), 0);
    x.turn(0, 0, -3);
    Due.is("to the left", x.took(0), -3);
    x.turn(479, 0, 7);
    Due.is("and to the right", x.took(0), 4);
    x.turn(9, 1, 1);
    Due.is("the other's", x.took(10), 1);
    Due.is("one's own", x.took(0), 4);
    Due.is("a cover that nobody is under", x.took(1) + x.took(11), 0);
    Due.is("all moved it there", x.lies(0, 479), 5);
    OneBlanket y = new OneBlanket();
    for (int s = 0; s < 6; s++) {
      y.sleeper(1004, 0);
    }
    for (int c = 0; c < 3; c++) {
      y.cover(0, 4000, c);
    }
    y.turn(0, 5, 9);
    Due.is("the last of both", y.took(52), 7);
    for (int sc : new int[] {-1, -10, LEAST, MOST, 3, 9, 13, 53, 59, 60, 62, 100, 1000}) {
      Due.is("took " + sc, y.took(sc), OneBlanket.VOID);
    }
    for (int sc : new int[] {-1, 2, 12, 20, 21, 99, LEAST, MOST}) {
      Twins.alike("took " + sc, z -> z.took(sc), OneBlanket.VOID);
    }
  }

  /** The night is begun from where all lie each time that it is asked for. */
  private static void askingChangesNothing() {
    OneBlanket x = new OneBlanket();
    Twins.everything(x);
    for (int number = 0; number <= 1; number++) {
      int of = number;
      for (int minute : new int[] {0, 60, 479}) {
        Twins.alike("lies in " + minute, y -> y.lies(of, minute), x.lies(of, minute));
        for (int what = 0; what <= 3; what++) {
          int asked = what;
          Twins.alike("sleeps " + what, y -> y.sleeps(of, minute, asked), x.sleeps(of, minute, asked));
        }
      }
      for (int what = 0; what <= 2; what++) {
        int asked = what;
        Twins.alike("minutes " + what, y -> y.minutes(of, asked), x.minutes(of, asked));
      }
      Twins.alike("wakes", y -> y.wakes(of, 0), x.wakes(of, 0));
      Twins.alike("by whom", y -> y.wakes(of, 1), x.wakes(of, 1));
      Twins.alike("took", y -> y.took(10 * of), x.took(10 * of));
    }
  }

  /** lies, sleeps, minutes, wakes: who is not there, a minute that is none, another what. */
  private static void refusedAsking() {
    for (int no : new int[] {-1, 2, 3, 6, LEAST, MOST}) {
      Twins.alike("lies of " + no, x -> x.lies(no, 0), OneBlanket.VOID);
      Twins.alike("sleeps of " + no, x -> x.sleeps(no, 0, 0), OneBlanket.VOID);
      Twins.alike("minutes of " + no, x -> x.minutes(no, 0), -1);
      Twins.alike("wakes of " + no, x -> x.wakes(no, 0), OneBlanket.VOID);
    }
    for (int m : new int[] {-1, 480, LEAST, MOST}) {
      Twins.alike("lies in " + m, x -> x.lies(0, m), OneBlanket.VOID);
      Twins.alike("sleeps in " + m, x -> x.sleeps(0, m, 0), OneBlanket.VOID);
    }
    for (int what : new int[] {-1, 4, 5, LEAST, MOST}) {
      Twins.alike("sleeps what " + what, x -> x.sleeps(0, 0, what), OneBlanket.VOID);
      Twins.alike("minutes what " + what, x -> x.minutes(0, what), -1);
      Twins.alike("wakes what " + what, x -> x.wakes(0, what), OneBlanket.VOID);
    }
    Twins.alike("minutes what 3", x -> x.minutes(0, 3), -1);
    Twins.alike("wakes what 2", x -> x.wakes(0, 2), OneBlanket.VOID);
    Twins.Story none = x -> { };
    Twins.alike("lies of none", none, x -> x.lies(0, 0), OneBlanket.VOID);
    Twins.alike("sleeps of none", none, x -> x.sleeps(0, 0, 0), OneBlanket.VOID);
    Twins.alike("minutes of none", none, x -> x.minutes(0, 0), -1);
    Twins.alike("wakes of none", none, x -> x.wakes(0, 0), OneBlanket.VOID);
    Twins.alike("took of none", none, x -> x.took(0), OneBlanket.VOID);
    Twins.Story most = x -> {
      for (int s = 0; s < 6; s++) {
        x.sleeper(1004, 0);
        x.cover(0, 500, 0);
      }
    };
    OneBlanket x = new OneBlanket();
    most.tell(x);
    Due.is("the last cover in the last minute", x.lies(2, 479), 0);
    Due.is("the last sleeper in the last minute", x.sleeps(5, 479, 0), 10);
    Due.is("the last sleeper's minutes", x.minutes(5, 2), 480);
    Due.is("the last sleeper sleeps", x.wakes(5, 0), -2);
    Twins.alike("a fourth cover", most, y -> y.lies(3, 0), OneBlanket.VOID);
    Twins.alike("a seventh sleeper", most, y -> y.sleeps(6, 0, 0), OneBlanket.VOID);
    Twins.alike("minutes of a seventh", most, y -> y.minutes(6, 0), -1);
    Twins.alike("wakes of a seventh", most, y -> y.wakes(6, 0), OneBlanket.VOID);
  }
}
