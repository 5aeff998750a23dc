import java.io.IOException;
import java.lang.reflect.Method;
import java.nio.file.Files;
import java.nio.file.Path;
import java.util.ArrayList;
import java.util.HashMap;
import java.util.HashSet;
import java.util.LinkedHashMap;
import java.util.List;
import java.util.Map;
import java.util.Set;

/**
 * Runs src/test/boundaries.txt: each sentence of the document at its boundaries. It also holds that
 * the sentences quoted there are the document's, all of them, and that an act that answers an ERROR
 * changes nothing else than what the document says: such a call is left out of a twin of the run,
 * and both are asked for all that can be seen.
 */
public final class BoundaryTest {
  private static final Path FILE = Path.of("src/test/boundaries.txt");
  private static final Path DOCUMENT = Path.of("../shared/DOC.md");
  private static final int MOST_CALLS = 512;
  /** So many calls may stand ahead of the questions that are put to twins. */
  private static final int MOST_AHEAD = 360;
  private static final List<String> ERRORS =
      List.of("BEYOND", "NONE", "STATE", "FULL", "KIND", "PARTED");
  private static final Map<String, Method> FACE = new HashMap<>();

  /** One call: its name, its numbers, the answer that is due, if one is told, and if by name. */
  private record Call(String name, long[] numbers, Long due, boolean refused) {
    @Override public String toString() {
      StringBuilder text = new StringBuilder(name).append('(');
      for (int i = 0; i < numbers.length; i++) {
        text.append(i == 0 ? "" : ",").append(numbers[i]);
      }
      return text.append(')').toString();
    }
  }

  private final Map<String, List<String>> quotes = new LinkedHashMap<>();
  private String section = "";
  private String sentence = "";
  private int line;
  private int runsOfSentence = 1;
  private int sentences;
  private int answers;
  private int twins;
  private int wrong;

  public static void main(String[] args) throws IOException {
    for (Method method : WheelBrook.class.getDeclaredMethods()) {
      FACE.put(method.getName(), method);
    }
    BoundaryTest test = new BoundaryTest();
    test.read(Files.readAllLines(FILE));
    if (Files.isReadable(DOCUMENT)) {
      test.holdQuotes(Files.readAllLines(DOCUMENT));
    }
    System.out.println("BoundaryTest: " + test.sentences + " sentences, " + test.answers
        + " answers asked for, " + test.twins + " refused calls left out of twins, " + test.wrong
        + " wrong");
    if (test.wrong != 0) {
      System.exit(1);
    }
  }

  private void fault(String what) {
    wrong++;
    System.out.println(FILE + ":" + line + ": " + section + ": " + sentence + "\n  " + what);
  }

  // ---- the file

  private void read(List<String> lines) {
    for (int i = 0; i < lines.size(); i++) {
      String text = lines.get(i).strip();
      line = i + 1;
      if (text.startsWith("== ")) {
        section = text.substring(3);
        quotes.put(section, new ArrayList<>());
      } else if (text.startsWith("-- ") || text.startsWith("~~ ")) {
        quote(text);
      } else if (!text.isEmpty() && !text.startsWith("#") && !text.startsWith("+ ")) {
        StringBuilder run = new StringBuilder(text);
        for (int k = i + 1; k < lines.size() && lines.get(k).startsWith("+ "); k++) {
          run.append(' ').append(lines.get(k).substring(2));
        }
        run(run.toString());
      }
    }
    holdSentenceTested();
  }

  private void quote(String text) {
    holdSentenceTested();
    sentence = text.substring(3);
    runsOfSentence = text.startsWith("~~") ? 1 : 0;
    sentences++;
    quotes.get(section).add(sentence);
  }

  private void holdSentenceTested() {
    if (runsOfSentence == 0) {
      fault("no run tests it");
    }
  }

  private void run(String text) {
    runsOfSentence++;
    List<Call> calls = new ArrayList<>();
    for (String token : text.split("\\s+")) {
      addCalls(token, calls);
    }
    if (calls.size() > MOST_CALLS) {
      fault("a run of " + calls.size() + " calls");
    }
    WheelBrook x = new WheelBrook();
    for (int i = 0; i < calls.size(); i++) {
      Call call = calls.get(i);
      int got = ask(x, call);
      if (call.due != null) {
        answers++;
        if (got != call.due) {
          fault(call + " (call " + (i + 1) + ") answered " + got + ", due is " + call.due);
        }
      }
      if (call.refused && i <= MOST_AHEAD) {
        holdTwins(calls.subList(0, i + 1));
      }
    }
  }

  private static void addCalls(String token, List<Call> calls) {
    int quote = token.indexOf('\'');
    if (quote >= 0) {
      String due = token.substring(token.lastIndexOf('\'') + 1);
      addText(token.substring(0, quote), token.substring(quote + 1, token.lastIndexOf('\'')),
          due.isEmpty() ? 0 : number(due.substring(1)), calls);
    } else if (token.startsWith("=")) {
      String[] counts = token.substring(1).split(",");
      for (int k = 1; k <= counts.length; k++) {
        calls.add(new Call("told", new long[] {k}, number(counts[k - 1]), false));
      }
    } else {
      addCall(token, calls);
    }
  }

  private static void addText(String how, String text, long due, List<Call> calls) {
    for (int i = 0; i < text.length(); i++) {
      calls.add(new Call("feed", new long[] {text.charAt(i), 1}, i + 1L, false));
    }
    if (how.equals("tape")) {
      int first = calls.size() - text.length();
      for (int i = first; i < calls.size(); i++) {
        calls.set(i, new Call("feed", calls.get(i).numbers, null, false));
      }
    } else if (how.startsWith("fault")) {
      calls.add(new Call("text", new long[] {how.charAt(5) - '0'}, -10 - due, false));
      calls.add(new Call("count", new long[] {7}, 0L, false));
    } else {
      boolean takes = how.equals("takes");
      calls.add(new Call("text", new long[] {takes ? 0 : 1}, 1L, false));
      calls.add(new Call("wheelIs", new long[] {0, takes ? 7 : 8}, due, false));
    }
  }

  private static void addCall(String token, List<Call> calls) {
    int star = token.indexOf('*');
    int times = star < 0 ? 1 : Integer.parseInt(token.substring(0, star));
    int open = token.indexOf('(');
    int close = token.indexOf(')');
    String inside = token.substring(open + 1, close);
    String[] parts = inside.isEmpty() ? new String[0] : inside.split(",");
    long[] numbers = new long[parts.length];
    for (int i = 0; i < parts.length; i++) {
      numbers[i] = number(parts[i]);
    }
    Long due = close + 1 == token.length() ? null : (Long) number(token.substring(close + 2));
    boolean refused = due != null && ERRORS.contains(token.substring(close + 2));
    for (int i = 0; i < times; i++) {
      calls.add(new Call(token.substring(star + 1, open), numbers, due, refused && i == 0));
    }
  }

  private static long number(String text) {
    if (ERRORS.contains(text)) {
      return -1000000001 - ERRORS.indexOf(text);
    }
    switch (text) {
      case "MIN": return Integer.MIN_VALUE;
      case "MAX": return Integer.MAX_VALUE;
      default: return Long.decode(text);
    }
  }

  // ---- calls

  private static int ask(WheelBrook x, String name, long... numbers) {
    return ask(x, new Call(name, numbers, null, false));
  }

  private static int ask(WheelBrook x, Call call) {
    Method method = FACE.get(call.name);
    Class<?>[] types = method.getParameterTypes();
    Object[] values = new Object[types.length];
    if (values.length != call.numbers.length) {
      throw new IllegalArgumentException(call.toString());
    }
    for (int i = 0; i < values.length; i++) {
      if (types[i] == long.class) {
        values[i] = call.numbers[i];
      } else {
        values[i] = Math.toIntExact(call.numbers[i]);
      }
    }
    try {
      return (Integer) method.invoke(x, values);
    } catch (ReflectiveOperationException e) {
      throw new IllegalStateException(call.toString(), e);
    }
  }

  // ---- twins

  /** The last of the calls is refused: but for what told() tells, its twin without it is alike. */
  private void holdTwins(List<Call> calls) {
    twins++;
    Call refused = calls.get(calls.size() - 1);
    for (int part = 0; part < 6; part++) {
      boolean free = part == 1 && refused.due == -1000000006
          || part == 2 && refused.name.equals("check");
      if (!free) {
        List<Integer> with = seen(after(calls), part);
        List<Integer> without = seen(after(calls.subList(0, calls.size() - 1)), part);
        if (!with.equals(without)) {
          fault(refused + " was refused, and changed (" + part + ") " + without + " to " + with);
        }
      }
    }
    WheelBrook with = after(calls);
    WheelBrook without = after(calls.subList(0, calls.size() - 1));
    for (int k = 1; k <= 6; k++) {
      int more = refused.due == -1000000000 - k ? 1 : 0;
      if (ask(with, "told", k) != ask(without, "told", k) + more) {
        fault(refused + " was refused: told(" + k + ") is " + ask(with, "told", k));
      }
    }
  }

  private static WheelBrook after(List<Call> calls) {
    WheelBrook x = new WheelBrook();
    for (Call call : calls) {
      ask(x, call);
    }
    return x;
  }

  private static List<Integer> seen(WheelBrook x, int part) {
    List<Integer> seen = new ArrayList<>();
    switch (part) {
      case 0: seeBrook(x, seen); break;
      case 1: seeTrace(x, seen); break;
      case 2: seeWaiting(x, seen); break;
      case 3: seeSheets(x, seen); break;
      case 4: seeTexts(x, seen); break;
      default:
        seen.add(ask(x, "restore"));
        seeBrook(x, seen);
        seen.add(ask(x, "image"));
        break;
    }
    return seen;
  }

  private static void seeBrook(WheelBrook x, List<Integer> seen) {
    for (int what = 0; what <= 22; what++) {
      seen.add(what == 8 || what == 9 ? 0 : ask(x, "count", what));
    }
    for (int i = 0; i < 5 * 4; i++) {
      seen.add(ask(x, "familyIs", i / 4, i % 4));
    }
    for (int i = 0; i < 8 * 10; i++) {
      seen.add(ask(x, "wheelIs", i / 10, i % 10));
    }
    for (int place = 0; place < 12; place++) {
      seen.add(ask(x, "flows", place));
    }
    seen.add(ask(x, "slipped"));
  }

  private static void seeTrace(WheelBrook x, List<Integer> seen) {
    seen.add(ask(x, "count", 9));
    for (int i = 0; i < 30; i++) {
      seen.add(ask(x, "body", i));
    }
  }

  private static void seeWaiting(WheelBrook x, List<Integer> seen) {
    seen.add(ask(x, "count", 8));
    seen.add(ask(x, "check", 0));
    seen.add(ask(x, "count", 8));
  }

  private static void seeSheets(WheelBrook x, List<Integer> seen) {
    for (int sheet = 0; sheet < 4; sheet++) {
      for (int other = 0; other < 4; other++) {
        seen.add(ask(x, "move", sheet, 0, other, 0, 0));
      }
      seen.add(ask(x, "put", sheet, 23, 0));
      seen.add(ask(x, "judge", sheet));
      seen.add(ask(x, "forces", sheet));
      for (int hour = 0; hour < 24; hour++) {
        seen.add(ask(x, "force", hour, 98));
      }
    }
  }

  private static void seeTexts(WheelBrook x, List<Integer> seen) {
    seen.add(ask(x, "wheel", 67, 113));
    for (int again = 0; again < 2; again++) {
      for (int hour = 0; hour < 24; hour++) {
        seen.add(ask(x, "force", hour, 99));
        seen.add(ask(x, "then", hour, 7, 5));
        seen.add(ask(x, "then", hour, 0, 6));
      }
      seen.add(ask(x, "text", again));
    }
    seen.add(ask(x, "untell", 0));
    seen.add(ask(x, "untell", 1));
  }

  // ---- the document

  /** In each section that is quoted from, the quotes are all that stands there, in their order. */
  private void holdQuotes(List<String> document) {
    Map<String, String> sections = sections(document);
    line = 0;
    for (String name : quotes.keySet()) {
      section = name;
      holdSection(sections.getOrDefault(name, ""), quotes.get(name));
    }
    Set<String> left = new HashSet<>(sections.keySet());
    left.removeAll(quotes.keySet());
    left.removeAll(Set.of("", "The public face", "Not promised"));
    sentence = "";
    for (String name : left) {
      fault("nothing is quoted from " + name);
    }
  }

  private static Map<String, String> sections(List<String> document) {
    Map<String, String> sections = new LinkedHashMap<>();
    String name = "";
    for (String text : document) {
      if (text.startsWith("## ")) {
        name = text.substring(3).strip();
      } else if (!text.startsWith("```")) {
        String plain = text.replaceFirst("^\\d+\\. ", "").replaceFirst("^`[^`]*`: ", "");
        sections.merge(name, plain, (a, b) -> (a + " " + b).replaceAll("\\s+", " ").strip());
      }
    }
    return sections;
  }

  private void holdSection(String text, List<String> quoted) {
    int at = 0;
    for (String quote : quoted) {
      sentence = quote;
      int found = text.indexOf(quote, at);
      if (found < 0) {
        fault("the document does not say so");
      } else {
        holdNothingBetween(text.substring(at, found));
        at = found + quote.length();
      }
    }
    holdNothingBetween(text.substring(at));
  }

  private void holdNothingBetween(String text) {
    if (!text.isBlank()) {
      fault("not quoted: " + text.strip());
    }
  }
}
