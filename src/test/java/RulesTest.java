import java.io.PrintWriter;
import java.io.StringWriter;
import java.net.URISyntaxException;
import java.nio.file.Files;
import java.nio.file.Path;
import java.io.IOException;
import java.util.ArrayList;
import java.util.Arrays;
import java.util.HashMap;
import java.util.HashSet;
import java.util.List;
import java.util.Map;
import java.util.Optional;
import java.util.Set;
import java.util.TreeMap;
import java.util.TreeSet;
import java.util.regex.Matcher;
import java.util.regex.Pattern;
import java.util.spi.ToolProvider;

/** The rules of LANGUAGE.md that the compiled classes show, as javap tells them. */
public final class RulesTest {
  private static final int DEEPEST = 8;
  private static final Pattern CLASS = Pattern.compile("(?:\\w+ )*class ([\\w$]+) \\{");
  private static final Pattern METHOD = Pattern.compile("  (\\S.*[ $.])?([\\w$]+)\\(.*\\);");
  private static final Pattern CALLED = Pattern.compile(".*invoke\\w+.*// (?:Interface)?Method ([^:]+):.*");
  private static final Pattern STEP = Pattern.compile("\\s+\\d+: (\\w+).*");
  private static final Set<String> LIBRARY = Set.of("java/lang/Long.bitCount", "java/lang/Math.abs",
      "java/lang/Math.max", "java/lang/Math.min", "java/lang/Object.<init>", "java/lang/String.indexOf",
      "java/lang/String.length", "java/lang/System.arraycopy", "java/util/Arrays.fill");
  private static final Set<String> BARRED = Set.of("athrow", "checkcast", "instanceof", "monitorenter",
      "monitorexit", "invokedynamic", "multianewarray", "ldiv", "lrem", "fdiv", "ddiv", "frem", "drem");
  private static final Set<String> MAKING = Set.of("new", "newarray", "anewarray");
  /** Those that divide by what is no constant: each looks at it first. */
  private static final Set<String> DIVIDING = Set.of("drawn", "partOf", "worthOfTwo");

  private static final Map<String, Set<String>> calls = new TreeMap<>();
  private static final Map<String, List<String>> steps = new TreeMap<>();
  private static final Set<String> hidden = new HashSet<>();

  private RulesTest() {}

  public static void main(String[] args) throws IOException, URISyntaxException {
    Optional<ToolProvider> javap = ToolProvider.findFirst("javap");
    if (javap.isEmpty()) {
      System.out.println("no javap here: the compiled classes are not looked at");
      Due.is("nothing", 0, 0);
    } else {
      read(told(javap.get()));
      told("methods are found", steps.size() > 100);
      steps();
      called();
      recursion();
      depth();
    }
    Due.end();
  }

  private static void told(String what, boolean holds) {
    Due.is(what, holds ? 1 : 0, 1);
  }

  private static String told(ToolProvider javap) throws IOException, URISyntaxException {
    Path at = Path.of(OneBlanket.class.getProtectionDomain().getCodeSource().getLocation().toURI());
    List<String> args = new ArrayList<>(Arrays.asList("-c", "-p"));
    try (var files = Files.list(at)) {
      files.map(Path::toString).filter(name -> name.matches(".*OneBlanket(\\$\\w+)?\\.class")).sorted()
          .forEach(args::add);
    }
    StringWriter out = new StringWriter();
    PrintWriter writer = new PrintWriter(out);
    int status = javap.run(writer, writer, args.toArray(new String[0]));
    writer.flush();
    Due.is("javap", status, 0);
    return out.toString();
  }

  private static void read(String all) {
    String owner = "";
    String method = "";
    for (String line : all.split("\\R")) {
      Matcher isClass = CLASS.matcher(line);
      Matcher isMethod = METHOD.matcher(line);
      Matcher isStep = STEP.matcher(line);
      if (isClass.matches()) {
        owner = isClass.group(1);
      } else if (line.equals("  static {};") || isMethod.matches()) {
        String name = line.equals("  static {};") ? "<clinit>" : isMethod.group(2);
        boolean isMade = owner.equals(name) || owner.endsWith("$" + name) || line.contains(" " + owner + "(");
        method = owner + "." + (isMade ? "<init>" : name);
        calls.putIfAbsent(method, new TreeSet<>());
        steps.putIfAbsent(method, new ArrayList<>());
        if (line.startsWith("  private ")) {
          hidden.add(method);
        }
      } else if (isStep.matches()) {
        steps.get(method).add(isStep.group(1));
        Matcher isCall = CALLED.matcher(line);
        if (isCall.matches()) {
          String called = isCall.group(1).replace("\"", "");
          calls.get(method).add(called.contains(".") ? called : owner + "." + called);
        }
      }
      told("no exceptions are caught: " + line, !line.contains("Exception table"));
    }
  }

  /** Rules 2, 5, 6, 7, 12: nothing thrown or cast, no lambda, objects made by constructors, divisors. */
  private static void steps() {
    for (Map.Entry<String, List<String>> one : steps.entrySet()) {
      String method = one.getKey();
      String name = method.substring(method.indexOf('.') + 1);
      List<String> of = one.getValue();
      for (int i = 0; i < of.size(); i++) {
        String step = of.get(i);
        told(method + " has " + step, !BARRED.contains(step));
        told(method + " makes", !MAKING.contains(step) || name.equals("<init>") || name.equals("<clinit>"));
        told(method + " sets static", !step.equals("putstatic") || name.equals("<clinit>"));
        if (step.equals("idiv") || step.equals("irem")) {
          boolean isConstant = i > 0 && of.get(i - 1).matches("bipush|sipush|iconst_[1-5]");
          told(method + " divides by what it has not looked at", isConstant || DIVIDING.contains(name));
        }
      }
    }
  }

  /** Rule 4: no library but what it lists. */
  private static void called() {
    for (Map.Entry<String, Set<String>> one : calls.entrySet()) {
      for (String called : one.getValue()) {
        told(one.getKey() + " calls " + called, calls.containsKey(called) || LIBRARY.contains(called));
      }
    }
  }

  private static Set<String> reached(String from) {
    Set<String> seen = new HashSet<>();
    List<String> open = new ArrayList<>(calls.getOrDefault(from, Set.of()));
    while (!open.isEmpty()) {
      String one = open.remove(open.size() - 1);
      if (seen.add(one)) {
        open.addAll(calls.getOrDefault(one, Set.of()));
      }
    }
    return seen;
  }

  /** Rule 8: what calls itself is private, and is what NOTES.md says is guarded. */
  private static void recursion() {
    Set<String> found = new TreeSet<>();
    for (String method : calls.keySet()) {
      if (reached(method).contains(method)) {
        found.add(method.replace("OneBlanket$", ""));
        told(method + " is private", hidden.contains(method));
      }
    }
    Set<String> guarded = Set.of("Bodies.run", "Tape.readLevel", "Tape.readOperand");
    told("these call themselves: " + found, found.equals(guarded));
  }

  /** Rule 11: calls that are no recursion go at most eight deep. */
  private static void depth() {
    Map<String, Integer> known = new HashMap<>();
    for (String method : calls.keySet()) {
      int deep = depthOf(method, known);
      told(method + " is " + deep + " deep", deep <= DEEPEST);
    }
  }

  private static int depthOf(String method, Map<String, Integer> known) {
    if (known.containsKey(method)) {
      return known.get(method);
    }
    int deep = 1;
    for (String called : calls.getOrDefault(method, Set.of())) {
      if (!reached(called).contains(method)) {
        deep = Math.max(deep, 1 + depthOf(called, known));
      }
    }
    known.put(method, deep);
    return deep;
  }
}
