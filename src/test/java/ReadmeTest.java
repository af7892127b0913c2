import java.io.IOException;
import java.lang.reflect.Method;
import java.lang.reflect.Modifier;
import java.nio.file.Files;
import java.nio.file.Path;
import java.util.List;
import java.util.Set;
import java.util.TreeSet;
import java.util.regex.Matcher;
import java.util.regex.Pattern;

/** The examples of README.md, one story: each call answers the number that stands behind it. */
public final class ReadmeTest {
  private static final Pattern CALL = Pattern.compile("bed\\.(\\w+)\\(([-0-9, ]*)\\);\\s*// (-?\\d+)(:.*)?");
  private static final Pattern FEED =
      Pattern.compile("for \\(char c : \"([^\"]*)\"\\.toCharArray\\(\\)\\) bed\\.feed\\(c\\);");
  private static final String MADE = "OneBlanket bed = new OneBlanket();";

  private static final Set<String> shown = new TreeSet<>();
  private static OneBlanket bed;

  private ReadmeTest() {}

  public static void main(String[] args) throws ReflectiveOperationException, IOException {
    boolean inJava = false;
    for (String line : Files.readAllLines(Path.of("README.md"))) {
      if (line.startsWith("```")) {
        inJava = line.equals("```java");
      } else if (inJava) {
        follow(line);
      }
    }
    allShown();
    allTestsListed();
    Due.end();
  }

  private static void follow(String line) throws ReflectiveOperationException {
    Matcher call = CALL.matcher(line);
    Matcher feed = FEED.matcher(line);
    if (line.equals(MADE)) {
      bed = new OneBlanket();
    } else if (feed.matches()) {
      shown.add("feed");
      Due.feed(bed, feed.group(1));
    } else if (call.matches()) {
      shown.add(call.group(1));
      Due.is(line, answer(call.group(1), call.group(2)), Long.parseLong(call.group(3)));
    } else {
      Due.is("not to be followed: " + line, 1, 0);
    }
  }

  private static long answer(String name, String told) throws ReflectiveOperationException {
    List<String> words = told.isEmpty() ? List.of() : List.of(told.split(", "));
    for (Method method : OneBlanket.class.getMethods()) {
      if (method.getName().equals(name) && method.getParameterCount() == words.size()) {
        Object[] values = new Object[words.size()];
        for (int i = 0; i < values.length; i++) {
          boolean isLong = method.getParameterTypes()[i] == long.class;
          values[i] = isLong ? (Object) Long.valueOf(words.get(i)) : (Object) Integer.valueOf(words.get(i));
        }
        return ((Number) method.invoke(bed, values)).longValue();
      }
    }
    Due.is("such a call: " + name, 0, 1);
    return 0;
  }

  private static void allShown() {
    for (Method method : OneBlanket.class.getDeclaredMethods()) {
      if (Modifier.isPublic(method.getModifiers())) {
        Due.is("an example of " + method.getName(), shown.contains(method.getName()) ? 1 : 0, 1);
      }
    }
  }

  /** The table of tests has each test, and none that isn't there. */
  private static void allTestsListed() throws IOException {
    Set<String> listed = new TreeSet<>();
    Matcher row = Pattern.compile("(?m)^\\| (\\w+Test) \\|").matcher(Files.readString(Path.of("README.md")));
    while (row.find()) {
      listed.add(row.group(1));
    }
    Set<String> there = new TreeSet<>();
    try (var files = Files.list(Path.of("src/test/java"))) {
      files.map(file -> file.getFileName().toString()).filter(name -> name.endsWith("Test.java"))
          .forEach(name -> there.add(name.replace(".java", "")));
    }
    Due.is("tests " + there + " listed as " + listed, there.equals(listed) ? 1 : 0, 1);
  }
}
