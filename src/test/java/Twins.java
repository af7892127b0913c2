/** Two beds with one story, one of them with a call more: whatever can be asked, both answer alike. */
final class Twins {
  interface Story {
    void tell(OneBlanket x);
  }

  interface Call {
    long on(OneBlanket x);
  }

  private static final int[] MINUTES = {0, 60, 479};
  private static final int[] TURNS = {0, 1, 2, 3, 58, 59};
  private static final int[] PLACES = {0, 1, 2, 3, 7, 8, 9, 59};
  /** What is told in a story and in a look stays within the 512 calls of one object. */
  private static final int MOST_ANSWERS = 380;

  private final OneBlanket x;
  private final long[] answers = new long[MOST_ANSWERS];
  private int known = 0;

  private Twins(OneBlanket itsX) {
    x = itsX;
  }

  /** A bed with something of everything, some sixty calls. */
  static void everything(OneBlanket x) {
    x.wide(50);
    x.sleeper(214, 4025);
    x.sleeper(1614, 5510);
    x.cover(-2, 3412, 1);
    x.cover(3, 1020, 0);
    x.turn(30, 0, -6);
    x.turn(60, 1, 4);
    x.turn(90, 0, 5);
    Due.law(x, "t");
    Due.law(x, "b?1;t-k");
    Due.room(x, "20-h*2");
    x.force(1);
    x.mend(0, 2, 60);
    x.mend(1, 0, 30);
    x.mend(0, 3, 9);
    x.undo();
    x.body(5);
    x.body(7);
    x.keep(0, 1);
    x.row(1, 1, 9);
    x.put(1, 0, -2);
    x.put(1, 8, 7);
    x.row(2, 3, 4);
    x.put(2, 0, Long.MAX_VALUE);
    x.act(0, 3, 5);
    Due.feed(x, "t+1");
  }

  /** The call is answered as due, and behind it all is as if it had not been made. */
  static void alike(String name, Story story, Call call, long due) {
    OneBlanket one = new OneBlanket();
    OneBlanket other = new OneBlanket();
    story.tell(one);
    story.tell(other);
    Due.is(name, call.on(one), due);
    Due.is(name + ": the answer behind it that tells", firstUnlike(one, other), -1);
  }

  static void alike(String name, Call call, long due) {
    alike(name, Twins::everything, call, due);
  }

  /** Which answer of a look is unlike; -1: none. */
  private static int firstUnlike(OneBlanket one, OneBlanket other) {
    Twins a = new Twins(one);
    Twins b = new Twins(other);
    a.look();
    b.look();
    for (int i = 0; i < Math.max(a.known, b.known); i++) {
      if (a.answers[i] != b.answers[i]) {
        return i;
      }
    }
    return a.known == b.known ? -1 : Math.min(a.known, b.known);
  }

  private long note(long answer) {
    answers[known] = answer;
    known++;
    return answer;
  }

  private void look() {
    for (int what = 0; what < 8; what++) {
      note(x.count(what));
    }
    for (int i = 0; i < 10; i++) {
      note(x.trace(i));
    }
    told();
    seen();
    shelves();
    changes();
    texts();
    note(x.wide(40));
  }

  private void told() {
    for (int what = 0; what < 4; what++) {
      for (int s = 0; s < 6; s++) {
        note(x.of(s, what));
      }
      for (int c = 0; c < 3; c++) {
        note(x.of(c, 10 + what));
      }
    }
    for (int k : TURNS) {
      for (int what = 20; what < 23; what++) {
        note(x.of(k, what));
      }
    }
  }

  private void seen() {
    for (int s = 0; s < 3; s++) {
      for (int m : MINUTES) {
        note(x.sleeps(s, m, 0));
        note(x.sleeps(s, m, 1));
        note(x.sleeps(s, m, 2));
        note(x.lies(s, m));
      }
      for (int what = 0; what < 3; what++) {
        note(x.minutes(s, what));
        note(x.took(10 * s + what));
      }
      note(x.wakes(s, 0));
      note(x.wakes(s, 1));
    }
  }

  private void shelves() {
    for (int shelf = 0; shelf < 6; shelf++) {
      note(x.taken(shelf, 0));
      for (int i : PLACES) {
        note(x.element(shelf, i));
      }
    }
  }

  private void changes() {
    for (int i = 0; i < 41 && note(x.redo()) >= 0; i++) {
      mended();
    }
    for (int i = 0; i < 41 && note(x.undo()) >= 0; i++) {
      mended();
    }
  }

  private void mended() {
    note(x.of(0, 2));
  }

  private void texts() {
    note(x.force(-1));
    for (int law = 0; law < 4; law++) {
      note(x.force(law));
      note(x.lies(0, 479));
    }
    note(x.law());
    note(x.force(x.count(3) - 1));
    note(x.lies(0, 479));
    note(x.room());
    note(x.sleeps(0, 0, 2));
    note(x.sleeps(0, 479, 2));
  }
}
