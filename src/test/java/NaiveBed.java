import java.util.ArrayList;
import java.util.List;

/** The document's bed told a second time, slowly: cell by cell, minute by minute, texts read as they are asked. */
final class NaiveBed {
  int wide = 40;
  final List<int[]> sleepers = new ArrayList<>(); // place, breadth, want, heat
  final List<int[]> covers = new ArrayList<>(); // left, width, warmth, tuck
  final List<int[]> turns = new ArrayList<>(); // minute, sleeper, cells
  final List<String> laws = new ArrayList<>();
  String room = null;
  int inForce = -1;

  /** All that a night shows. */
  static final class Seen {
    int[][] left;
    int[][] place;
    int[][] covered;
    int[][] warm;
    int[][] took;
    int[] wokenAt;
    int[] wokenBy;
    int dice;
  }

  /** How a night is to be played, as told at first. */
  final class Plan {
    int law = inForce;
    int more = 0;
    int only = -1;
    int[] places = null;
    boolean drawn = false;
    int dice = 0;
    int odds = 0;

    Seen play() {
      return new Player(this).play();
    }
  }

  Plan plan() {
    return new Plan();
  }

  private final class Player {
    private final Plan plan;
    private final int n = sleepers.size();
    private final int[] place = new int[n];
    private final int[] left = new int[covers.size()];
    private final int[] last = new int[n];
    private final int[] coldRow = new int[n];
    private final Seen seen = new Seen();

    Player(Plan itsPlan) {
      plan = itsPlan;
    }

    Seen play() {
      seen.left = new int[covers.size()][480];
      seen.place = new int[n][480];
      seen.covered = new int[n][480];
      seen.warm = new int[n][480];
      seen.took = new int[n][covers.size()];
      seen.wokenAt = new int[n];
      seen.wokenBy = new int[n];
      seen.dice = plan.dice;
      for (int s = 0; s < n; s++) {
        place[s] = plan.places == null ? sleepers.get(s)[0] : plan.places[s];
        seen.wokenAt[s] = -2;
        seen.wokenBy[s] = -2;
      }
      for (int c = 0; c < left.length; c++) {
        left[c] = covers.get(c)[0];
      }
      for (int m = 0; m < 480; m++) {
        doTurns(m);
        look(m);
      }
      return seen;
    }

    private void doTurns(int m) {
      if (plan.drawn) {
        for (int s = 0; s < n && m % 10 == 0; s++) {
          seen.dice = seen.dice * 1103515245 + 12345;
          if ((seen.dice >>> 8) % 100 < plan.odds) {
            seen.dice = seen.dice * 1103515245 + 12345;
            int cells = (seen.dice >>> 8) % 21 - 10;
            if (cells != 0) {
              turnOver(s, cells, m);
            }
          }
        }
        return;
      }
      for (int[] turn : turns) {
        if (turn[0] == m && turn[1] < n && (plan.only < 0 || plan.only == turn[1])) {
          turnOver(turn[1], turn[2], m);
        }
      }
    }

    private int under(int s, int c) {
      int cells = 0;
      for (int cell = place[s]; cell < place[s] + sleepers.get(s)[1]; cell++) {
        if (cell >= left[c] && cell < left[c] + covers.get(c)[1]) {
          cells++;
        }
      }
      return cells;
    }

    private int covered(int s) {
      int cells = 0;
      for (int cell = place[s]; cell < place[s] + sleepers.get(s)[1]; cell++) {
        boolean some = false;
        for (int c = 0; c < left.length; c++) {
          some |= cell >= left[c] && cell < left[c] + covers.get(c)[1];
        }
        cells += some ? 1 : 0;
      }
      return cells;
    }

    private void turnOver(int s, int cells, int m) {
      int[] before = new int[n];
      for (int i = 0; i < n; i++) {
        before[i] = covered(i);
      }
      int t = Math.abs(cells);
      int b = last[s] != 0 && last[s] > 0 != cells > 0 ? 1 : 0;
      int breadth = sleepers.get(s)[1];
      int[] by = new int[left.length];
      for (int c = 0; c < left.length; c++) {
        int u = under(s, c);
        if (u == 0) {
          continue;
        }
        int[] cover = covers.get(c);
        int given;
        if (plan.law < 0) {
          given = b == 1 ? 0 : t * u / breadth - cover[3];
        } else {
          given = new Reading(laws.get(plan.law), t, u, cover[1], cover[3], s, b, m).worth();
        }
        given = given < 0 ? 0 : given > t ? t : given;
        by[c] = cells > 0 ? given : -given;
      }
      for (int c = 0; c < left.length; c++) {
        left[c] += by[c];
        seen.took[s][c] += by[c];
      }
      place[s] += cells;
      if (place[s] < 0) {
        place[s] = 0;
      }
      if (place[s] > wide - breadth) {
        place[s] = wide - breadth;
      }
      last[s] = cells;
      for (int i = 0; i < n; i++) {
        if (i != s && (before[i] - covered(i)) * 2 >= sleepers.get(i)[1] && seen.wokenAt[i] == -2) {
          seen.wokenAt[i] = m;
          seen.wokenBy[i] = s;
        }
      }
    }

    private void look(int m) {
      for (int c = 0; c < left.length; c++) {
        seen.left[c][m] = left[c];
      }
      int degrees = room == null ? 10 : new Reading(room, 0, 0, 0, 0, 0, 0, m).worth();
      degrees = degrees < -50 ? -50 : degrees > 50 ? 50 : degrees;
      for (int s = 0; s < n; s++) {
        int[] one = sleepers.get(s);
        int warm = degrees + plan.more + one[3];
        for (int c = 0; c < left.length; c++) {
          warm += covers.get(c)[2] * under(s, c) / one[1];
        }
        seen.place[s][m] = place[s];
        seen.covered[s][m] = covered(s);
        seen.warm[s][m] = warm;
        coldRow[s] = one[2] - warm > 15 ? coldRow[s] + 1 : 0;
        if (coldRow[s] == 10 && seen.wokenAt[s] == -2) {
          seen.wokenAt[s] = m;
          seen.wokenBy[s] = -1;
        }
      }
    }
  }

  boolean easy(Seen seen, int s, int m) {
    return Math.abs(seen.warm[s][m] - sleepers.get(s)[2]) <= 5;
  }

  int minutes(Seen seen, int s, int what) {
    int many = 0;
    for (int m = 0; m < 480; m++) {
      boolean counts = what == 0 ? easy(seen, s, m)
          : what == 1 ? seen.warm[s][m] < sleepers.get(s)[2] - 15
          : seen.covered[s][m] != sleepers.get(s)[1];
      many += counts ? 1 : 0;
    }
    return many;
  }

  int leastEasy(Seen seen) {
    int least = 480;
    for (int s = 0; s < sleepers.size(); s++) {
      least = Math.min(least, minutes(seen, s, 0));
    }
    return least;
  }

  int broad(int cover, int minute) {
    int was = covers.get(cover)[1];
    int found = -2;
    for (int width = 80; width >= 5; width--) {
      covers.get(cover)[1] = width;
      Seen seen = plan().play();
      boolean bare = false;
      for (int s = 0; s < sleepers.size(); s++) {
        bare |= seen.covered[s][minute] < sleepers.get(s)[1];
      }
      found = bare ? found : width;
    }
    covers.get(cover)[1] = was;
    return found;
  }

  int[] tucked(int cover) {
    int was = covers.get(cover)[3];
    int[] best = {0, -1};
    for (int tuck = 0; tuck <= 9; tuck++) {
      covers.get(cover)[3] = tuck;
      Seen seen = plan().play();
      int sum = 0;
      for (int s = 0; s < sleepers.size(); s++) {
        sum += minutes(seen, s, 0);
      }
      if (sum > best[1]) {
        best = new int[] {tuck, sum};
      }
    }
    covers.get(cover)[3] = was;
    return best;
  }

  int[] window() {
    int[] best = {0, -1};
    for (int more = -9; more <= 9; more++) {
      Plan plan = plan();
      plan.more = more;
      int least = leastEasy(plan.play());
      if (least > best[1]) {
        best = new int[] {more, least};
      }
    }
    return best;
  }

  int[] across() {
    int[] best = {0, -1};
    tryOrders(0, new boolean[sleepers.size()], 0, new int[sleepers.size()], 0, best);
    return best;
  }

  private void tryOrders(int laid, boolean[] lies, int digits, int[] places, int cell, int[] best) {
    if (laid == lies.length) {
      Plan plan = plan();
      plan.places = places.clone();
      int least = leastEasy(plan.play());
      if (least > best[1]) {
        best[0] = digits;
        best[1] = least;
      }
      return;
    }
    for (int s = 0; s < lies.length; s++) {
      if (!lies[s]) {
        lies[s] = true;
        int breadth = sleepers.get(s)[1];
        places[s] = Math.min(cell, wide - breadth);
        tryOrders(laid + 1, lies, digits * 10 + s + 1, places, cell + breadth, best);
        lies[s] = false;
      }
    }
  }

  int drawn(int seed, int nights, int odds, int number, int what) {
    int sum = 0;
    int dice = seed;
    for (int k = 0; k < nights; k++) {
      Plan plan = plan();
      plan.drawn = true;
      plan.dice = dice;
      plan.odds = odds;
      Seen seen = plan.play();
      dice = seen.dice;
      sum += what == 0 ? minutes(seen, number, 0) : seen.left[number][479];
    }
    return sum / nights;
  }

  int[] morning(int cover, int told) {
    int[] best = {-1, 0};
    for (int s = 0; s < sleepers.size(); s++) {
      Plan plan = plan();
      plan.only = s;
      int off = Math.abs(plan.play().left[cover][479] - told);
      if (best[0] < 0 || off < best[1]) {
        best = new int[] {s, off};
      }
    }
    return best;
  }

  int film(long[] row) {
    int bits = 0;
    for (int law = -1; law < laws.size(); law++) {
      Plan plan = plan();
      plan.law = law;
      Seen seen = plan.play();
      boolean same = row[8] == seen.left[0][479];
      for (int i = 0; i < 8; i++) {
        same &= row[i] == seen.left[0][60 * i];
      }
      bits += same ? 1 << (law + 1) : 0;
    }
    return bits;
  }

  /** Works a faultless text out while reading it, each rule of the grammar a method. */
  private static final class Reading {
    private final String text;
    private final String names = "tuwksbmh";
    private final int[] values;
    private int at = 0;

    Reading(String itsText, int t, int u, int w, int k, int s, int b, int m) {
      text = itsText;
      values = new int[] {t, u, w, k, s, b, m, m / 60};
    }

    int worth() {
      int result = 0;
      boolean found = false;
      while (at < text.length()) {
        int first = e();
        boolean counts = true;
        int value = first;
        if (next('?')) {
          counts = first != 0;
          value = e();
        }
        next(';');
        if (counts && !found) {
          result = value;
          found = true;
        }
      }
      return result;
    }

    private boolean next(char sign) {
      if (at < text.length() && text.charAt(at) == sign) {
        at++;
        return true;
      }
      return false;
    }

    private int e() {
      int value = a();
      while (next('|')) {
        int other = a();
        value = value != 0 || other != 0 ? 1 : 0;
      }
      return value;
    }

    private int a() {
      int value = b();
      while (next('&')) {
        int other = b();
        value = value != 0 && other != 0 ? 1 : 0;
      }
      return value;
    }

    private int b() {
      int value = s();
      if (next('<')) {
        return value < s() ? 1 : 0;
      }
      if (next('=')) {
        return value == s() ? 1 : 0;
      }
      if (next('>')) {
        return value > s() ? 1 : 0;
      }
      return value;
    }

    private int s() {
      int value = p();
      while (true) {
        if (next('+')) {
          value += p();
        } else if (next('-')) {
          value -= p();
        } else {
          return value;
        }
      }
    }

    private int p() {
      int value = o();
      while (true) {
        if (next('*')) {
          value *= o();
        } else if (next('/')) {
          int by = o();
          value = by == 0 ? 0 : value / by;
        } else if (next('%')) {
          int by = o();
          value = by == 0 ? 0 : value % by;
        } else {
          return value;
        }
      }
    }

    private int o() {
      if (next('!')) {
        return o() == 0 ? 1 : 0;
      }
      if (next('-')) {
        return -o();
      }
      if (next('(')) {
        int value = e();
        next(')');
        return value;
      }
      int name = names.indexOf(text.charAt(at));
      if (name >= 0) {
        at++;
        return values[name];
      }
      int number = 0;
      while (at < text.length() && Character.isDigit(text.charAt(at))) {
        number = number * 10 + text.charAt(at) - '0';
        at++;
      }
      return number;
    }
  }
}
