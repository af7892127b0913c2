import java.lang.reflect.Array;
import java.lang.reflect.Field;
import java.lang.reflect.Modifier;
import java.util.ArrayList;
import java.util.Collections;
import java.util.IdentityHashMap;
import java.util.List;
import java.util.Set;

/** "An object is used for at most 512 calls": the 512th is answered as the first, whatever came ahead. */
public final class LifeTest {
  private static final int LIFE = 512;

  public static void main(String[] args) throws IllegalAccessException {
    for (int which = 0; which < 10; which++) {
      dearest(which);
    }
    feedAndTake();
    mendOnAndOn();
    turnAndClear();
    rowAfterRow();
    actOnAndOn();
    roomTaken();
    Due.end();
  }

  /** A full bed: six sleepers, three covers, 60 turns; 71 calls. */
  private static OneBlanket fullBed() {
    OneBlanket x = new OneBlanket();
    x.wide(60);
    for (int s = 0; s < 6; s++) {
      x.sleeper(900 * s + 10, 1500 + 500 * s + s);
    }
    for (int c = 0; c < 3; c++) {
      x.cover(15 * c, 2511 + c, c);
    }
    for (int i = 0; i < 60; i++) {
      x.turn(8 * i, i % 6, i % 7 < 3 ? -5 : 4);
    }
    x.row(0, 1, 9);
    return x;
  }

  private static long call(OneBlanket x, int which) {
    switch (which) {
      case 0:
        return x.across(0);
      case 1:
        return x.drawn(77, 20100, 5, 0);
      case 2:
        return x.broad(0, 479);
      case 3:
        return x.tucked(2, 1);
      case 4:
        return x.window(1);
      case 5:
        return x.morning(1, 50, 0);
      case 6:
        return x.film(0);
      case 7:
        return x.minutes(5, 2);
      case 8:
        return x.wakes(3, 0);
      default:
        return x.lies(2, 479);
    }
  }

  private static void dearest(int which) {
    long due = call(fullBed(), which);
    OneBlanket x = fullBed();
    for (int i = 71; i < LIFE; i++) {
      long got = call(x, which);
      if (got != due || i == LIFE - 1) {
        Due.is("call " + i + " of " + which, got, due);
      }
    }
  }

  private static void feedAndTake() {
    OneBlanket x = new OneBlanket();
    for (int i = 0; i < LIFE; i++) {
      int at = i % 122;
      boolean takes = at == 121;
      int due = takes ? -100 - 119 : at == 120 ? -3 : at + 1;
      Due.is("call " + i, takes ? x.law() : x.feed(at == 119 ? 'x' : at % 2 == 0 ? 't' : '+'), due);
    }
  }

  private static void mendOnAndOn() {
    OneBlanket x = new OneBlanket();
    x.sleeper(4, 0);
    for (int i = 1; i < LIFE - 41; i++) {
      Due.is("call " + i, x.mend(0, 0, i % 100), (i - 1) % 100);
    }
    for (int i = 39; i >= 0; i--) {
      Due.is("undo " + i, x.undo(), i);
    }
    Due.is("the last call", x.of(0, 2), (LIFE - 42 - 40) % 100);
  }

  private static void turnAndClear() {
    OneBlanket x = new OneBlanket();
    for (int i = 0; i < LIFE; i++) {
      int at = i % 62;
      Due.is("call " + i, at == 61 ? x.clear() : x.turn(479 - at, 0, 1), at == 61 ? 60 : at == 60 ? -3 : at);
    }
  }

  private static void rowAfterRow() {
    OneBlanket x = new OneBlanket();
    for (int i = 0; i < LIFE / 2; i++) {
      Due.is("row " + i, x.row(i % 6, i % 5, 60), 1);
      Due.is("put " + i, x.put(i % 6, 59, 1), 1);
    }
  }

  private static void actOnAndOn() {
    OneBlanket x = new OneBlanket();
    x.body(5);
    for (int i = 1; i < LIFE - 1; i++) {
      Due.is("act " + i, x.act(0, 3, i), ((2 * (i + 3) - (1 - 5)) ^ 5) + 1);
    }
    Due.is("ran", x.count(7), 10);
  }

  /** "All memory is the class's own": what an object holds is made with it, and calls make nothing more. */
  private static void roomTaken() throws IllegalAccessException {
    OneBlanket x = fullBed();
    Due.is("fields and elements, some 3400", partsOf(x) < 4000 ? 1 : 0, 1);
    Due.is("of a full bed as of a new one", partsOf(x), partsOf(new OneBlanket()));
    for (int i = 71; i < LIFE; i++) {
      call(x, i % 10);
    }
    Due.is("behind the 512th call", partsOf(x), partsOf(new OneBlanket()));
  }

  /** Fields and elements of an object and of all that it leads to. */
  private static int partsOf(Object whole) throws IllegalAccessException {
    Set<Object> seen = Collections.newSetFromMap(new IdentityHashMap<>());
    List<Object> open = new ArrayList<>();
    open.add(whole);
    int parts = 0;
    while (!open.isEmpty()) {
      Object one = open.remove(open.size() - 1);
      if (one == null || !seen.add(one)) {
        continue;
      }
      parts += one.getClass().isArray() ? Array.getLength(one) : fieldsOf(one, open);
      if (one instanceof Object[]) {
        Collections.addAll(open, (Object[]) one);
      }
    }
    return parts;
  }

  private static int fieldsOf(Object one, List<Object> open) throws IllegalAccessException {
    int fields = 0;
    for (Field field : one.getClass().getDeclaredFields()) {
      if (!Modifier.isStatic(field.getModifiers())) {
        fields++;
        field.setAccessible(true);
        if (!field.getType().isPrimitive()) {
          open.add(field.get(one));
        }
      }
    }
    return fields;
  }
}
