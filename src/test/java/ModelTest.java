import java.util.Arrays;
import java.util.Random;

/** Holds the program against Model in many runs of calls that are drawn (always the same ones). */
public final class ModelTest {
  private static final int RUNS = 4000;
  private static final int CALLS = 300;
  private static final String[] NAMES = {"force", "weed", "frost", "owe", "familyIs", "wheel",
      "wheelIs", "as", "set", "flows", "feed", "text", "untell", "hours", "draws", "seed", "sell",
      "fair", "then", "thenFamily", "when", "sluices", "fewer", "bestPlace", "who", "slipped",
      "voice", "body", "sheet", "put", "move", "forces", "judge", "image", "restore", "tell",
      "check", "count", "told"};
  private static final int[] ODD = {-1, -2, 0, 1, 9, 10, 100, 10000, 1000000, Integer.MAX_VALUE,
      Integer.MIN_VALUE, Integer.MIN_VALUE + 1, Integer.MAX_VALUE - 1, -1000000001};

  private final Random random;
  private final WheelBrook x = new WheelBrook();
  private final Model model = new Model();
  private final int run;
  private final StringBuilder calls = new StringBuilder();
  private boolean wrong;
  private int count;

  private ModelTest(int run) {
    this.run = run;
    random = new Random(run);
  }

  public static void main(String[] args) {
    int runs = args.length == 0 ? RUNS : Integer.parseInt(args[0]);
    int failed = 0;
    int answers = 0;
    for (int run = 0; run < runs && failed < 3; run++) {
      ModelTest test = new ModelTest(run);
      failed += test.failed() ? 1 : 0;
      answers += test.count;
    }
    System.out.println("ModelTest: " + runs + " runs, " + answers + " answers, " + failed + " wrong");
    if (failed != 0) {
      System.exit(1);
    }
  }

  private boolean failed() {
    if (run % 4 != 0) {
      build();
    }
    while (!wrong && count < CALLS) {
      any();
    }
    return wrong;
  }

  private int below(int n) {
    return random.nextInt(n);
  }

  /** A number within bounds, mostly; else one beyond them, or an odd one. */
  private int near(int least, int most) {
    int how = below(60);
    if (how == 0) {
      return ODD[below(ODD.length)];
    }
    if (how <= 2) {
      return how == 1 ? least - 1 : most + 1;
    }
    return how <= 4 ? (how == 3 ? least : most) : least + below(most - least + 1);
  }

  private int wheel() {
    return near(0, Math.max(0, model.r.mills.size() - 1));
  }

  private void due(String name, long... a) {
    count++;
    int want = model.call(name, a);
    int got = ask(name, a);
    calls.append(name).append(Arrays.toString(a)).append(" = ").append(got).append('\n');
    if (got != want) {
      wrong = true;
      System.out.println("run " + run + ":\n" + calls + "due is " + want);
    }
  }

  private int ask(String name, long[] a) {
    int[] v = new int[5];
    for (int i = 0; i < a.length; i++) {
      v[i] = (int) a[i];
    }
    switch (name) {
      case "force": return x.force(v[0], v[1]);
      case "weed": return x.weed(v[0], v[1]);
      case "frost": return x.frost(v[0]);
      case "owe": return x.owe(v[0], v[1]);
      case "familyIs": return x.familyIs(v[0], v[1]);
      case "wheel": return x.wheel(v[0], v[1]);
      case "wheelIs": return x.wheelIs(v[0], v[1]);
      case "as": return x.as(v[0], v[1]);
      case "set": return x.set(v[0], v[1], v[2]);
      case "flows": return x.flows(v[0]);
      case "feed": return x.feed(a[0], v[1]);
      case "text": return x.text(v[0]);
      case "untell": return x.untell(v[0]);
      case "hours": return x.hours(v[0]);
      case "draws": return x.draws(v[0]);
      case "seed": return x.seed(v[0]);
      case "sell": return x.sell(v[0], v[1], v[2]);
      case "fair": return x.fair(v[0], v[1]);
      case "then": return x.then(v[0], v[1], v[2]);
      case "thenFamily": return x.thenFamily(v[0], v[1], v[2]);
      case "when": return x.when(v[0], v[1]);
      case "sluices": return x.sluices(v[0], v[1]);
      case "fewer": return x.fewer(v[0], v[1], v[2]);
      case "bestPlace": return x.bestPlace(v[0], v[1]);
      case "who": return x.who(v[0], v[1]);
      case "slipped": return x.slipped();
      case "voice": return x.voice(v[0], v[1], v[2]);
      case "body": return x.body(v[0]);
      case "sheet": return x.sheet(v[0], v[1], v[2]);
      case "put": return x.put(v[0], v[1], v[2]);
      case "move": return x.move(v[0], v[1], v[2], v[3], v[4]);
      case "forces": return x.forces(v[0]);
      case "judge": return x.judge(v[0]);
      case "image": return x.image();
      case "restore": return x.restore();
      case "tell": return x.tell(v[0]);
      case "check": return x.check(v[0]);
      case "count": return x.count(v[0]);
      case "told": return x.told(v[0]);
      default: throw new AssertionError(name);
    }
  }

  /** Some wheels, laws and debts to begin with. */
  private void build() {
    int wheels = below(9);
    for (int i = 0; i < wheels; i++) {
      due("wheel", below(70), 10 * below(12) + below(5));
    }
    if (below(2) == 0) {
      learn(0);
      learn(1);
    }
    for (int family = 0; family < 5; family++) {
      due("owe", family, below(below(2) == 0 ? 60 : 400));
    }
    if (below(20) == 0) {
      for (int i = 0; i < 41; i++) {
        due("hours", 240);
      }
      due("hours", 100 + below(58));
    }
  }

  private void learn(int use) {
    String text = text(use);
    for (int i = 0; i < text.length(); i += 8) {
      long word = random.nextLong();
      int n = Math.min(8, text.length() - i);
      for (int k = 0; k < n; k++) {
        word = word & ~(255L << 8 * k) | (text.charAt(i + k) & 255L) << 8 * k;
      }
      due("feed", word, n);
    }
    due("text", use);
  }

  private String text(int use) {
    StringBuilder text = new StringBuilder();
    grow(text, use, below(6), 0);
    int spoils = below(3) == 0 ? 1 + below(3) : 0;
    for (int i = 0; i < spoils && text.length() > 0; i++) {
      int at = below(text.length());
      switch (below(4)) {
        case 0: text.deleteCharAt(at); break;
        case 1: text.setCharAt(at, letter()); break;
        case 2: text.insert(at, letter()); break;
        default: text.setLength(at); break;
      }
    }
    if (text.length() > 60) {
      text.setLength(60);
    }
    return text.toString();
  }

  private char letter() {
    String letters = "fphmtc0123456789|&<=>+-*/%!()(((!!! x~";
    return below(30) == 0 ? (char) below(256) : letters.charAt(below(letters.length()));
  }

  private void grow(StringBuilder text, int use, int joins, int deep) {
    grain(text, use, deep);
    for (int i = 0; i < joins; i++) {
      text.append("|&<=>++--**//%%".charAt(below(15)));
      grain(text, use, deep);
    }
  }

  private void grain(StringBuilder text, int use, int deep) {
    int how = below(10);
    if (how < 4 || deep == 6) {
      String names = use == 0 ? "fphm" : "tcm";
      text.append(names.charAt(below(names.length())));
    } else if (how < 7) {
      text.append(below(new int[] {10, 100, 10000}[below(3)]));
    } else if (how == 7) {
      text.append('!');
      grain(text, use, deep + 1);
    } else {
      text.append('(');
      grow(text, use, below(3), deep + 1);
      text.append(')');
    }
  }

  private void any() {
    String name = NAMES[below(NAMES.length)];
    switch (name) {
      case "force": due(name, near(0, 23), near(0, 99)); break;
      case "weed": due(name, near(0, 11), near(0, 9)); break;
      case "frost": due(name, below(3) == 0 ? near(0, 9) : near(0, 3)); break;
      case "owe": due(name, near(0, 4), below(4) == 0 ? near(0, 99999) : near(0, 400)); break;
      case "familyIs": due(name, near(0, 4), near(0, 3)); break;
      case "wheel": due(name, near(0, 69), 10 * near(0, 11) + near(0, 4)); break;
      case "wheelIs": due(name, wheel(), near(0, 9)); break;
      case "as": due(name, wheel(), near(0, 6)); break;
      case "set": set(); break;
      case "flows": due(name, near(0, 11)); break;
      case "feed":
        if (below(3) == 0) {
          due(name, random.nextLong(), near(1, 8));
        }
        break;
      case "text":
        if (below(4) == 0) {
          due(name, near(0, 1));
        }
        learn(below(2));
        break;
      case "untell": due(name, near(0, 1)); break;
      case "hours": due(name, below(3) == 0 ? near(1, 240) : near(1, 9)); break;
      case "draws": due(name, below(3) == 0 ? near(1, 60) : near(1, 3)); break;
      case "seed": due(name, below(2) == 0 ? random.nextInt() : near(-9, 9)); break;
      case "sell": due(name, near(0, 4), near(0, 4), below(3) == 0 ? near(1, 9999) : near(1, 90)); break;
      case "fair": due(name, near(0, 4), near(0, 4)); break;
      case "then": due(name, near(0, 240), wheel(), near(0, 9)); break;
      case "thenFamily": due(name, near(0, 240), near(0, 4), near(0, 3)); break;
      case "when": due(name, near(0, 4), below(2) == 0 ? near(0, 240) : near(0, 20)); break;
      case "sluices": sluices(); break;
      case "fewer": due(name, near(0, 69), near(0, 11), near(1, 48)); break;
      case "bestPlace": due(name, near(0, 69), near(1, 48)); break;
      case "who": who(); break;
      default: rest(name); break;
    }
  }

  private void set() {
    int what = near(0, 5);
    int[] most = {6, 9, 11, 4, 1, 999999};
    int v = what >= 0 && what < 6 ? near(0, most[what]) : 0;
    due("set", wheel(), what, what == 5 && below(2) == 0 ? near(0, 40) : v);
  }

  /** Debts that can be paid are rare without help. */
  private void sluices() {
    if (below(2) == 0) {
      for (int family = 0; family < 5; family++) {
        int more = below(3) == 0 ? below(40) : 0;
        due("owe", family, Math.min(99999, Math.max(0, model.r.prayed[family] - 2 + more)));
      }
    }
    int n = near(1, 6);
    due("sluices", n, 0);
    due("sluices", n, 1);
    due("sluices", near(1, 6), near(0, 1));
  }

  private void who() {
    int gone = below(2) == 0 ? near(0, 99) : model.r.course()[12];
    for (int what = 0; what < 4; what++) {
      due("who", gone, what);
    }
    due("who", near(0, 99), near(0, 3));
  }

  private void rest(String name) {
    switch (name) {
      case "slipped": due(name); break;
      case "voice":
        due(name, wheel(), near(0, 3), below(3) == 0 ? random.nextInt() : near(-9, 99));
        for (int i = 0; i < 7; i++) {
          due("body", i);
        }
        break;
      case "body": due(name, near(0, 7)); break;
      case "sheet": due(name, near(0, 3), below(9) == 0 ? near(0, 32) : 8 * below(5), near(0, 24)); break;
      case "put":
        for (int i = below(6); i >= 0; i--) {
          due(name, near(0, 3), near(0, 11), below(6) == 0 ? random.nextInt() : near(0, 99));
        }
        break;
      case "move": due(name, near(0, 3), near(0, 9), near(0, 3), near(0, 9), near(0, 9)); break;
      case "forces": due(name, near(0, 3)); break;
      case "judge": judge(); break;
      case "image": due(name); break;
      case "restore": due(name); break;
      case "tell": due(name, near(0, 99)); break;
      case "check": check(); break;
      case "count": due(name, near(0, 22)); break;
      default: due("told", near(1, 6)); break;
    }
  }

  private void judge() {
    int sheet = near(0, 3);
    if (below(2) == 0) {
      due("sheet", sheet, 8 << below(3), 10 + below(5));
      int right = below(15);
      for (int i = 0; i < right; i++) {
        due("put", sheet, i, i < 12 ? model.r.course()[i] : 0);
      }
    }
    due("judge", sheet);
  }

  private void check() {
    int wheel = wheel();
    if (below(2) == 0 && model.r.mills.size() > 0) {
      int known = Math.floorMod(wheel, model.r.mills.size());
      int right = below(5);
      for (int i = 1; i <= right; i++) {
        due("tell", model.r.later(i).mills.get(known).counter + (below(12) == 0 ? 1 : 0));
      }
    }
    due("check", wheel);
  }
}
