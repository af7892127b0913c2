import java.io.IOException;
import java.lang.reflect.Constructor;
import java.lang.reflect.Field;
import java.lang.reflect.Member;
import java.lang.reflect.Method;
import java.lang.reflect.Modifier;
import java.nio.file.Files;
import java.nio.file.Path;
import java.util.ArrayList;
import java.util.Arrays;
import java.util.Collections;
import java.util.List;
import java.util.regex.Matcher;
import java.util.regex.Pattern;

/** The public face, and those rules of LANGUAGE.md that the source and the classes show. */
public final class FaceTest {
  private static final String FACE = "wide(int) sleeper(int,int) cover(int,int,int) mend(int,int,int) of(int,int)"
      + " feed(int) law() room() force(int) turn(int,int,int) tosses(int,int,int) clear() lies(int,int)"
      + " sleeps(int,int,int) minutes(int,int) wakes(int,int) took(int) broad(int,int) tucked(int,int) window(int)"
      + " across(int) drawn(int,int,int,int) morning(int,int,int) film(int) undo() redo() body(int)"
      + " act(int,int,int) trace(int) keep(int,int) row(int,int,int) put(int,int,long) element(int,int)"
      + " shift(int,int,int,int,int) taken(int,int) count(int)";

  public static void main(String[] args) throws IOException {
    constants();
    methods();
    members();
    source(Files.readString(Path.of("src/main/java/OneBlanket.java")));
    Due.end();
  }

  private static void constants() {
    Due.is("BAD", OneBlanket.BAD, -1);
    Due.is("NOT", OneBlanket.NOT, -2);
    Due.is("FULL", OneBlanket.FULL, -3);
    Due.is("STATE", OneBlanket.STATE, -5);
    Due.is("VOID", OneBlanket.VOID, -2000000000);
    Due.is("final", Modifier.isFinal(OneBlanket.class.getModifiers()) ? 1 : 0, 1);
  }

  private static void methods() {
    List<String> found = new ArrayList<>();
    for (Method method : OneBlanket.class.getDeclaredMethods()) {
      if (Modifier.isPublic(method.getModifiers())) {
        String of = Arrays.toString(method.getParameterTypes()).replaceAll("[\\[\\] ]", "");
        found.add(method.getName() + "(" + of + ")");
        Class<?> answer = method.getName().equals("element") ? long.class : int.class;
        Due.is("what answers " + method.getName(), method.getReturnType() == answer ? 1 : 0, 1);
        Due.is("static " + method.getName(), Modifier.isStatic(method.getModifiers()) ? 1 : 0, 0);
      }
    }
    List<String> due = new ArrayList<>(Arrays.asList(FACE.split(" ")));
    Collections.sort(due);
    Collections.sort(found);
    told("the face is " + found, found.equals(due));
  }

  private static void told(String what, boolean holds) {
    Due.is(what, holds ? 1 : 0, 1);
  }

  /** Rule 1, 5, 11: what else there is, is private; static fields are final; seven parameters, few fields. */
  private static void members() {
    List<String> face = Arrays.asList(FACE.replaceAll("\\([^)]*\\)", "").split(" "));
    Constructor<?>[] made = OneBlanket.class.getDeclaredConstructors();
    told("one constructor", made.length == 1 && Modifier.isPublic(made[0].getModifiers()));
    List<Class<?>> classes = new ArrayList<>(Arrays.asList(OneBlanket.class.getDeclaredClasses()));
    told("some twelve classes", classes.size() < 12);
    for (Member member : both(OneBlanket.class)) {
      boolean isConstant = member instanceof Field && "BAD NOT FULL STATE VOID".contains(member.getName());
      boolean isCall = member instanceof Method && face.contains(member.getName());
      boolean isPublic = Modifier.isPublic(member.getModifiers());
      told(member + " is of the face or private",
          isPublic ? isConstant || isCall : Modifier.isPrivate(member.getModifiers()) && !isCall);
    }
    classes.add(OneBlanket.class);
    for (Class<?> one : classes) {
      told(one + " is static", one == OneBlanket.class || Modifier.isStatic(one.getModifiers()));
      shapes(one, face);
    }
  }

  private static List<Member> both(Class<?> one) {
    List<Member> all = new ArrayList<>(Arrays.asList(one.getDeclaredFields()));
    all.addAll(Arrays.asList(one.getDeclaredMethods()));
    return all;
  }

  private static void shapes(Class<?> one, List<String> face) {
    int fields = 0;
    for (Field field : one.getDeclaredFields()) {
      boolean isStatic = Modifier.isStatic(field.getModifiers());
      fields += isStatic ? 0 : 1;
      told(field + " is final", !isStatic || Modifier.isFinal(field.getModifiers()));
    }
    told(one + " has some twenty fields: " + fields, fields <= 20);
    for (Method method : one.getDeclaredMethods()) {
      told(method + " has seven parameters at most", method.getParameterCount() <= 7);
      told(method + " bears no public name", one == OneBlanket.class || !face.contains(method.getName()));
    }
  }

  /** Rules 2, 4, 6, 13, as far as words show them. */
  private static void source(String whole) {
    told("signs 1 to 127 alone", whole.chars().allMatch(c -> c > 0 && c < 128));
    String code = whole.replaceAll("(?s)/\\*.*?\\*/", "").replaceAll("//[^\\n]*", "")
        .replaceAll("\"[^\"\\n]*\"", "\"\"");
    String barred = "throw|throws|try|catch|finally|synchronized|assert|package|volatile|transient|native|Object"
        + "|hashCode|toString|Random|Thread|System\\.(?!arraycopy)|Math\\.\\w+Exact|Arrays\\.(?!fill\\(|copyOf)"
        + "|double|float|sealed|record|protected";
    Matcher found = Pattern.compile("\\b(" + barred + ")").matcher(code);
    while (found.find()) {
      told("barred: " + found.group(), false);
    }
    told("no lambda", !code.contains("->") && !code.contains("::"));
    told("the one import", code.replaceAll("(?m)^import java\\.util\\.Arrays;$", "").indexOf("import") < 0);
    lengths(whole.split("\n"));
  }

  /** Rule 11: methods stay under some sixty lines. */
  private static void lengths(String[] lines) {
    int from = 0;
    String closing = "";
    for (int i = 0; i < lines.length; i++) {
      if (lines[i].matches(" {2}( {2})?[a-z].*\\) \\{")) {
        from = i;
        closing = lines[i].replaceAll("\\S.*", "") + "}";
      } else if (lines[i].equals(closing)) {
        told("line " + (from + 1) + " begins a method of " + (i - from + 1) + " lines", i - from < 60);
      }
    }
  }
}
