import java.lang.reflect.Method;
import java.nio.file.Files;
import java.nio.file.Path;
import java.util.HashMap;
import java.util.Map;
import java.util.regex.Matcher;
import java.util.regex.Pattern;

/** Runs the example in README.md against the answers that it tells. */
public final class ReadmeTest {
  private static final Pattern CALL =
      Pattern.compile("(?:int (\\w+) = )?brook\\.(\\w+)\\(([^)]*)\\); +// (-?\\d+): .+");

  private static final Map<String, Long> names = new HashMap<>();
  private static WheelBrook brook;
  private static int calls;
  private static int wrong;

  public static void main(String[] args) throws Exception {
    boolean inside = false;
    for (String line : Files.readAllLines(Path.of("README.md"))) {
      if (line.startsWith("```")) {
        inside = line.equals("```java");
      } else if (inside) {
        run(line);
      }
    }
    if (calls == 0) {
      fault("README.md has no example");
    }
    System.out.println("ReadmeTest: " + calls + " calls, " + wrong + " wrong");
    if (wrong != 0) {
      System.exit(1);
    }
  }

  private static void run(String line) throws Exception {
    if (line.equals("WheelBrook brook = new WheelBrook();")) {
      brook = new WheelBrook();
      return;
    }
    Matcher call = CALL.matcher(line);
    if (!call.matches() || brook == null) {
      fault("not to be run: " + line);
      return;
    }
    long got = answer(call.group(2), call.group(3));
    calls++;
    if (got != Long.parseLong(call.group(4))) {
      fault("answered " + got + ": " + line);
    }
    if (call.group(1) != null) {
      names.put(call.group(1), got);
    }
  }

  private static long answer(String name, String args) throws Exception {
    String[] texts = args.isEmpty() ? new String[0] : args.split(", ");
    for (Method method : WheelBrook.class.getMethods()) {
      if (method.getName().equals(name) && method.getParameterCount() == texts.length) {
        Object[] values = new Object[texts.length];
        for (int i = 0; i < texts.length; i++) {
          long v = names.containsKey(texts[i]) ? names.get(texts[i]) : Long.decode(texts[i]);
          if (method.getParameterTypes()[i] == long.class) {
            values[i] = v;
          } else {
            values[i] = Math.toIntExact(v);
          }
        }
        return (Integer) method.invoke(brook, values);
      }
    }
    throw new IllegalArgumentException("no such call: " + name);
  }

  private static void fault(String what) {
    wrong++;
    System.out.println(what);
  }
}
