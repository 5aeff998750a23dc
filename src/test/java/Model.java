import java.util.ArrayList;
import java.util.Arrays;
import java.util.List;

/**
 * The document once more, in other words: kinds are classes, what is PARTED is thrown, texts are
 * worked out from their letters, and what lies ahead from deep copies. ModelTest holds the program
 * against it.
 */
final class Model {
  static final class Err extends RuntimeException {
    final int k;

    Err(int k) {
      super(null, null, false, false);
      this.k = k;
    }
  }

  static final int BEYOND = 1;
  static final int NONE = 2;
  static final int STATE = 3;
  static final int FULL = 4;
  static final int KIND = 5;
  static final int PARTED = 6;

  static void need(boolean holds, int k) {
    if (!holds) {
      throw new Err(k);
    }
  }

  static boolean in(long v, long least, long most) {
    return least <= v && v <= most;
  }

  // ---- kinds

  static class Plain {
    int wants(River r, Mill w, int f) { return f / 3; }
    int turns(River r, Mill w, int t) { return t; }
    int shows(River r, Mill w, int t) { return r.turns(w, t); }
    int flows(Voice v, int x) { v.says(10); return x + v.k; }
    int turns(Voice v, int x) { v.says(11); return flows(v, x) * 2; }
    int prays(Voice v, int x) { v.says(12); return turns(v, x) - v.m; }
    int parts(Voice v, int x) {
      v.says(13);
      need(v.m != v.k, PARTED);
      return x / (v.m - v.k);
    }
  }

  static class Slow extends Plain {
    @Override int wants(River r, Mill w, int f) { return super.wants(r, w, f) + w.m; }
    @Override int turns(River r, Mill w, int t) { return t / 2; }
    @Override int flows(Voice v, int x) { v.says(20); return super.flows(v, x) - 4; }
    @Override int parts(Voice v, int x) { v.says(21); return super.parts(v, x) + turns(v, 1); }
  }

  static class Hidden extends Plain {
    @Override int wants(River r, Mill w, int f) { return w.m; }
    @Override int shows(River r, Mill w, int t) { return r.turns(w, t) / 2; }
    @Override int turns(Voice v, int x) { v.says(30); return -super.turns(v, x); }
  }

  static class Twice extends Plain {
    @Override int wants(River r, Mill w, int f) { return 2 * super.wants(r, w, f); }
    @Override int turns(River r, Mill w, int t) { return 2 * t; }
    @Override int prays(Voice v, int x) { v.says(40); return super.prays(v, x / 2); }
  }

  static class Silent extends Slow {
    @Override int turns(River r, Mill w, int t) {
      int slow = super.turns(r, w, t);
      return slow > 0 ? slow + 1 : slow;
    }
    @Override int shows(River r, Mill w, int t) { return 0; }
    @Override int flows(Voice v, int x) { v.says(50); return super.flows(v, x) * 3; }
    @Override int prays(Voice v, int x) { v.says(51); return super.prays(v, x) ^ v.k; }
  }

  static class Lying extends Twice {
    @Override int turns(River r, Mill w, int t) { return 0; }
    @Override int shows(River r, Mill w, int t) { return super.turns(r, w, t); }
    @Override int turns(Voice v, int x) { v.says(60); return super.turns(v, x + 1); }
  }

  static class ByText extends Plain {
    @Override int wants(River r, Mill w, int f) {
      return r.texts[0] == null ? f / 2
          : new Sum(r.texts[0], "fphm", f, w.place, r.hour % 24, w.m).all();
    }
    @Override int turns(River r, Mill w, int t) {
      return r.texts[1] == null ? t : new Sum(r.texts[1], "tcm", t, w.counter, w.m).all();
    }
    @Override int flows(Voice v, int x) { v.says(70); return 2; }
    @Override int turns(Voice v, int x) { v.says(71); return super.turns(v, x) + v.m; }
  }

  static final Plain[] KINDS = {new Plain(), new Slow(), new Hidden(), new Twice(), new Silent(),
      new Lying(), new ByText()};

  static final class Voice {
    final int k;
    final int m;
    final List<Integer> trace = new ArrayList<>();

    Voice(int k, int m) {
      this.k = k;
      this.m = m;
    }

    void says(int body) {
      if (trace.size() < 30) {
        trace.add(body);
      }
    }
  }

  // ---- texts

  /** Whether bytes are a text, and what one comes to: each rule of the grammar is a method. */
  static final class Sum {
    final String s;
    final String names;
    final int[] values;
    int at;
    int open;

    Sum(String s, String names, int... values) {
      this.s = s;
      this.names = names;
      this.values = values.length == 0 ? new int[names.length()] : values;
    }

    static boolean isText(String s, String names) {
      try {
        Sum sum = new Sum(s, names);
        sum.t();
        return sum.at == s.length();
      } catch (IllegalStateException noText) {
        return false;
      }
    }

    int all() {
      return t();
    }

    private char peek() {
      return at < s.length() ? s.charAt(at) : '\uffff';
    }

    private boolean got(char c) {
      if (peek() != c) {
        return false;
      }
      at++;
      return true;
    }

    private static int bit(boolean b) {
      return b ? 1 : 0;
    }

    private int t() {
      int v = a();
      while (got('|')) {
        int w = a();
        v = bit(v != 0 | w != 0);
      }
      return v;
    }

    private int a() {
      int v = b();
      while (got('&')) {
        int w = b();
        v = bit(v != 0 & w != 0);
      }
      return v;
    }

    private int b() {
      int v = sum();
      if (got('<')) {
        return bit(v < sum());
      }
      if (got('=')) {
        return bit(v == sum());
      }
      return got('>') ? bit(v > sum()) : v;
    }

    private int sum() {
      int v = p();
      while (true) {
        if (got('+')) {
          v += p();
        } else if (got('-')) {
          v -= p();
        } else {
          return v;
        }
      }
    }

    private int p() {
      int v = q();
      while (true) {
        if (got('*')) {
          v *= q();
        } else if (got('/')) {
          int w = q();
          v = w == 0 ? 0 : v / w;
        } else if (got('%')) {
          int w = q();
          v = w == 0 ? 0 : v % w;
        } else {
          return v;
        }
      }
    }

    private int q() {
      int v = 0;
      int digits = 0;
      while (digits < 4 && in(peek(), '0', '9')) {
        v = 10 * v + peek() - '0';
        at++;
        digits++;
      }
      if (digits > 0) {
        return v;
      }
      int name = names.indexOf(peek());
      if (name >= 0) {
        at++;
        return values[name];
      }
      boolean not = peek() == '!';
      if (!not && peek() != '(' || open == 5) {
        throw new IllegalStateException();
      }
      at++;
      open++;
      v = not ? bit(q() == 0) : t();
      if (!not && !got(')')) {
        throw new IllegalStateException();
      }
      open--;
      return v;
    }

    /** A text goes on with bytes if a number, or none, and brackets make a text of them. */
    static boolean goesOn(String s, String names) {
      for (String end = ""; end.length() <= 5; end += ")") {
        if (isText(s + end, names) || isText(s + "1" + end, names)) {
          return true;
        }
      }
      return false;
    }

    /** -1: none. */
    static int fault(String s, String names) {
      for (int i = 0; i < s.length(); i++) {
        if (!goesOn(s.substring(0, i + 1), names)) {
          return i;
        }
      }
      return isText(s, names) ? -1 : s.length();
    }
  }

  // ---- the brook

  static final class Mill implements Cloneable {
    int kind;
    int m;
    int place;
    int family;
    boolean open = true;
    int counter;
    int turned;

    Mill(int km, int place, int family) {
      kind = km / 10;
      m = km % 10;
      this.place = place;
      this.family = family;
    }

    Mill copy() {
      try {
        return (Mill) clone();
      } catch (CloneNotSupportedException never) {
        throw new AssertionError(never);
      }
    }
  }

  static final class River {
    int[] force = new int[24];
    int[] weed = new int[12];
    int[] owed = new int[5];
    int[] prayed = new int[5];
    List<Mill> mills = new ArrayList<>();
    String[] texts = new String[2];
    String tape = "";
    List<Integer> waiting = new ArrayList<>();
    int hour;
    int frost;
    int z = 1;

    River() {
      Arrays.fill(force, 30);
    }

    River copy() {
      River r = new River();
      r.force = force.clone();
      r.weed = weed.clone();
      r.owed = owed.clone();
      r.prayed = prayed.clone();
      for (Mill w : mills) {
        r.mills.add(w.copy());
      }
      r.texts = texts.clone();
      r.tape = tape;
      r.waiting.addAll(waiting);
      r.hour = hour;
      r.frost = frost;
      r.z = z;
      return r;
    }

    int turns(Mill w, int t) {
      return Math.max(0, Math.min(9999, KINDS[w.kind].turns(this, w, t)));
    }

    int shows(Mill w, int t) {
      return Math.max(0, Math.min(9999, KINDS[w.kind].shows(this, w, t)));
    }

    /** What flows to the places, 12: what is gone, 13: what is lost; takes become known too. */
    int[] course(int[] takes) {
      int[] course = new int[14];
      int f = force[hour % 24];
      for (int place = 0; place < 12; place++) {
        course[place] = f;
        int less = Math.max(0, f - weed[place]);
        course[13] += f - less;
        f = less;
        for (int i = 0; i < mills.size(); i++) {
          Mill w = mills.get(i);
          if (w.place == place) {
            int want = w.open && w.m >= frost ? KINDS[w.kind].wants(this, w, f) : 0;
            takes[i] = Math.max(0, Math.min(f, want));
            f -= takes[i];
          }
        }
      }
      course[12] = f;
      return course;
    }

    int[] takes() {
      int[] takes = new int[mills.size()];
      course(takes);
      return takes;
    }

    int[] course() {
      return course(new int[mills.size()]);
    }

    void more(Mill w, int turns) {
      w.turned = Math.min(999999, w.turned + turns);
      prayed[w.family] = Math.min(999999, prayed[w.family] + turns);
    }

    /** The turns that each made. */
    int[] pass() {
      int[] takes = takes();
      int[] made = new int[takes.length];
      for (int i = 0; i < takes.length; i++) {
        Mill w = mills.get(i);
        made[i] = turns(w, takes[i]);
        int shows = shows(w, takes[i]);
        more(w, made[i]);
        w.counter = Math.min(999999, w.counter + shows);
      }
      hour++;
      return made;
    }

    River later(int n) {
      River r = copy();
      for (int i = 0; i < n; i++) {
        r.pass();
      }
      return r;
    }

    River only(int bits) {
      River r = copy();
      for (int i = 0; i < mills.size(); i++) {
        r.mills.get(i).open = (bits >> i) % 2 == 1;
      }
      return r;
    }

    boolean paid(int family) {
      return prayed[family] >= owed[family];
    }

    int familyIs(int family, int what) {
      int wheels = 0;
      for (Mill w : mills) {
        wheels += w.family == family ? 1 : 0;
      }
      return new int[] {owed[family], prayed[family], paid(family) ? 1 : 0, wheels}[what];
    }

    int wheelIs(int wheel, int what) {
      Mill w = mills.get(wheel);
      int t = takes()[wheel];
      return new int[] {w.kind, w.m, w.place, w.family, w.open ? 1 : 0, w.counter, w.turned, t,
          turns(w, t), shows(w, t)}[what];
    }
  }

  River r = new River();
  River image;
  int images;
  final long[][] sheets = new long[4][];
  final int[] bits = new int[4];
  List<Integer> trace = new ArrayList<>();
  final int[] told = new int[7];

  /** The answer of a call by its name. */
  int call(String name, long[] a) {
    try {
      return answer(name, a);
    } catch (Err e) {
      told[e.k]++;
      return -1000000000 - e.k;
    }
  }

  private static int i(long v) {
    return (int) v;
  }

  private void wheelThere(long wheel) {
    need(in(wheel, 0, r.mills.size() - 1), BEYOND);
  }

  private int answer(String name, long[] a) {
    switch (name) {
      case "force": {
        need(in(a[0], 0, 23) && in(a[1], 0, 99), BEYOND);
        int was = r.force[i(a[0])];
        r.force[i(a[0])] = i(a[1]);
        return was;
      }
      case "weed": {
        need(in(a[0], 0, 11) && in(a[1], 0, 9), BEYOND);
        int was = r.weed[i(a[0])];
        r.weed[i(a[0])] = i(a[1]);
        return was;
      }
      case "frost": {
        need(in(a[0], 0, 9), BEYOND);
        int was = r.frost;
        r.frost = i(a[0]);
        return was;
      }
      case "owe": {
        need(in(a[0], 0, 4) && in(a[1], 0, 99999), BEYOND);
        int was = r.owed[i(a[0])];
        r.owed[i(a[0])] = i(a[1]);
        return was;
      }
      case "familyIs":
        need(in(a[0], 0, 4) && in(a[1], 0, 3), BEYOND);
        return r.familyIs(i(a[0]), i(a[1]));
      case "wheel":
        need(in(a[0], 0, 69) && in(a[1], 0, 119) && a[1] % 10 <= 4, BEYOND);
        need(r.mills.size() < 8, FULL);
        r.mills.add(new Mill(i(a[0]), i(a[1] / 10), i(a[1] % 10)));
        return r.mills.size() - 1;
      case "wheelIs":
        wheelThere(a[0]);
        need(in(a[1], 0, 9), BEYOND);
        return r.wheelIs(i(a[0]), i(a[1]));
      case "as": {
        wheelThere(a[0]);
        need(in(a[1], 0, 6), BEYOND);
        Mill w = r.mills.get(i(a[0]));
        need(KINDS[i(a[1])].getClass().isInstance(KINDS[w.kind]), KIND);
        return w.counter;
      }
      case "set":
        return change(a);
      case "flows":
        need(in(a[0], 0, 11), BEYOND);
        return r.course()[i(a[0])];
      case "feed":
        need(in(a[1], 1, 8), BEYOND);
        need(r.tape.length() + a[1] <= 60, FULL);
        for (int k = 0; k < a[1]; k++) {
          r.tape += (char) (a[0] >> 8 * k & 255);
        }
        return r.tape.length();
      case "text": {
        need(in(a[0], 0, 1), BEYOND);
        int fault = Sum.fault(r.tape, a[0] == 0 ? "fphm" : "tcm");
        if (fault < 0) {
          r.texts[i(a[0])] = r.tape;
        }
        r.tape = "";
        return fault < 0 ? 1 : -10 - fault;
      }
      case "untell": {
        need(in(a[0], 0, 1), BEYOND);
        boolean was = r.texts[i(a[0])] != null;
        r.texts[i(a[0])] = null;
        return was ? 1 : 0;
      }
      default:
        return hoursAndAhead(name, a);
    }
  }

  private int change(long[] a) {
    wheelThere(a[0]);
    need(in(a[1], 0, 5), BEYOND);
    need(in(a[2], 0, new int[] {6, 9, 11, 4, 1, 999999}[i(a[1])]), BEYOND);
    Mill w = r.mills.get(i(a[0]));
    int was = r.wheelIs(i(a[0]), i(a[1]));
    int v = i(a[2]);
    switch (i(a[1])) {
      case 0: w.kind = v; break;
      case 1: w.m = v; break;
      case 2: w.place = v; break;
      case 3: w.family = v; break;
      case 4: w.open = v == 1; break;
      default: w.counter = v; break;
    }
    return was;
  }

  private int drawn() {
    r.z = (int) (r.z * 1103515245L + 12345L);
    int rest = i(((r.z & 0xffffffffL) >> 8) % 16);
    if (rest == 0) {
      for (Mill w : r.mills) {
        if (w.open) {
          r.more(w, w.m);
        }
      }
    } else if (rest < 4) {
      r.frost += r.frost < 9 ? 1 : 0;
    } else if (rest < 7) {
      r.frost -= r.frost > 0 ? 1 : 0;
    }
    r.pass();
    return rest == 0 ? 1 : 0;
  }

  private int above(long family) {
    return r.prayed[i(family)] - r.owed[i(family)];
  }

  private int hoursAndAhead(String name, long[] a) {
    switch (name) {
      case "hours":
        need(in(a[0], 1, 240), BEYOND);
        need(r.hour + a[0] <= 9999, STATE);
        r = r.later(i(a[0]));
        return Arrays.stream(r.prayed).sum();
      case "draws": {
        need(in(a[0], 1, 60), BEYOND);
        need(r.hour + a[0] <= 9999, STATE);
        int floods = 0;
        for (int k = 0; k < a[0]; k++) {
          floods += drawn();
        }
        return floods;
      }
      case "seed": {
        int was = r.z;
        r.z = i(a[0]);
        return was;
      }
      case "sell":
        need(in(a[0], 0, 4) && in(a[1], 0, 4) && a[0] != a[1] && in(a[2], 1, 9999), BEYOND);
        need(r.prayed[i(a[0])] >= a[2], STATE);
        r.prayed[i(a[0])] -= a[2];
        return r.prayed[i(a[1])] = i(Math.min(999999, r.prayed[i(a[1])] + a[2]));
      case "fair":
        need(in(a[0], 0, 4) && in(a[1], 0, 4) && a[0] != a[1], BEYOND);
        return (above(a[0]) - above(a[1])) / 2;
      case "then":
        need(in(a[0], 0, 240), BEYOND);
        wheelThere(a[1]);
        need(in(a[2], 0, 9), BEYOND);
        return r.later(i(a[0])).wheelIs(i(a[1]), i(a[2]));
      case "thenFamily":
        need(in(a[0], 0, 240) && in(a[1], 0, 4) && in(a[2], 0, 3), BEYOND);
        return r.later(i(a[0])).familyIs(i(a[1]), i(a[2]));
      case "when": {
        need(in(a[0], 0, 4) && in(a[1], 0, 240), BEYOND);
        River ahead = r.copy();
        for (int k = 0; k <= a[1]; k++) {
          if (ahead.paid(i(a[0]))) {
            return k;
          }
          ahead.pass();
        }
        throw new Err(NONE);
      }
      case "sluices":
        need(in(a[0], 1, 6) && in(a[1], 0, 1), BEYOND);
        return sluices(i(a[0]), a[1] == 0);
      case "fewer": {
        need(in(a[0], 0, 69) && in(a[1], 0, 11) && in(a[2], 1, 48), BEYOND);
        need(r.mills.size() < 8, FULL);
        int[] with = withOneMore(i(a[0]), i(a[1]), i(a[2]));
        River without = r.copy();
        int fewer = 0;
        for (int k = 0; k < a[2]; k++) {
          fewer += Arrays.stream(without.pass()).sum();
        }
        for (int k = 0; k < r.mills.size(); k++) {
          fewer -= with[k];
        }
        return fewer;
      }
      case "bestPlace": {
        need(in(a[0], 0, 69) && in(a[1], 1, 48), BEYOND);
        need(r.mills.size() < 8, FULL);
        int best = 11;
        for (int place = 10; place >= 0; place--) {
          int own = r.mills.size();
          if (withOneMore(i(a[0]), place, i(a[1]))[own]
              >= withOneMore(i(a[0]), best, i(a[1]))[own]) {
            best = place;
          }
        }
        return best;
      }
      default:
        return whoAndVoices(name, a);
    }
  }

  /** The turns of each within n hours, the new one's last. */
  private int[] withOneMore(int km, int place, int n) {
    River ahead = r.copy();
    ahead.mills.add(new Mill(km, place, 0));
    int[] sums = new int[ahead.mills.size()];
    for (int k = 0; k < n; k++) {
      int[] made = ahead.pass();
      for (int w = 0; w < made.length; w++) {
        sums[w] += made[w];
      }
    }
    return sums;
  }

  private int sluices(int n, boolean set) {
    int best = Integer.MAX_VALUE;
    int bestSet = -1;
    for (int mask = (1 << r.mills.size()) - 1; mask >= 0; mask--) {
      River ahead = r.only(mask);
      int taken = 0;
      for (int k = 0; k < n; k++) {
        taken += Arrays.stream(ahead.takes()).sum();
        ahead.pass();
      }
      boolean all = true;
      for (int family = 0; family < 5; family++) {
        all &= ahead.paid(family);
      }
      if (all && taken <= best) {
        best = taken;
        bestSet = mask;
      }
    }
    need(bestSet >= 0, NONE);
    return set ? bestSet : best;
  }

  private int whoAndVoices(String name, long[] a) {
    switch (name) {
      case "who": {
        need(in(a[0], 0, 99) && in(a[1], 0, 3), BEYOND);
        List<Integer> sets = new ArrayList<>();
        for (int mask = 0; mask < 1 << r.mills.size(); mask++) {
          if (r.only(mask).course()[12] == a[0]) {
            sets.add(mask);
          }
        }
        need(!sets.isEmpty() || a[1] == 0 || a[1] == 3, NONE);
        int all = -1;
        int any = 0;
        for (int set : sets) {
          all &= set;
          any |= set;
        }
        return new int[] {sets.size(), sets.isEmpty() ? 0 : sets.get(0), all, any}[i(a[1])];
      }
      case "slipped": {
        int slipped = 0;
        for (int k = 0; k < r.mills.size(); k++) {
          slipped += r.mills.get(k).counter == r.mills.get(k).turned ? 0 : 1 << k;
        }
        return slipped;
      }
      case "voice": {
        wheelThere(a[0]);
        need(in(a[1], 0, 3), BEYOND);
        Mill w = r.mills.get(i(a[0]));
        Voice v = new Voice(i(a[0]), w.m);
        trace = v.trace;
        Plain kind = KINDS[w.kind];
        switch (i(a[1])) {
          case 0: return kind.flows(v, i(a[2]));
          case 1: return kind.turns(v, i(a[2]));
          case 2: return kind.prays(v, i(a[2]));
          default: return kind.parts(v, i(a[2]));
        }
      }
      case "body":
        need(in(a[0], 0, trace.size() - 1), NONE);
        return trace.get(i(a[0]));
      default:
        return sheetsAndRest(name, a);
    }
  }

  private void sheetThere(long sheet) {
    need(in(sheet, 0, 3), BEYOND);
  }

  private long[] sheet(long sheet) {
    need(sheets[i(sheet)] != null, NONE);
    return sheets[i(sheet)];
  }

  private int sheetsAndRest(String name, long[] a) {
    switch (name) {
      case "sheet":
        sheetThere(a[0]);
        need(a[1] == 0 || a[1] == 8 || a[1] == 16 || a[1] == 32, BEYOND);
        need(a[1] == 0 || a[2] >= 0, STATE);
        need(a[1] == 0 || a[2] <= 24, BEYOND);
        sheets[i(a[0])] = a[1] == 0 ? null : new long[i(a[2])];
        bits[i(a[0])] = i(a[1]);
        return 1;
      case "put": {
        sheetThere(a[0]);
        long[] row = sheet(a[0]);
        need(in(a[1], 0, row.length - 1), BEYOND);
        row[i(a[1])] = a[2] & (1L << bits[i(a[0])]) - 1;
        return 1;
      }
      case "move": {
        sheetThere(a[0]);
        sheetThere(a[2]);
        long[] from = sheet(a[0]);
        long[] to = sheet(a[2]);
        need(bits[i(a[0])] == bits[i(a[2])], KIND);
        need(a[4] >= 0 && a[1] >= 0 && a[3] >= 0, BEYOND);
        need(a[1] + a[4] <= from.length && a[3] + a[4] <= to.length, BEYOND);
        long[] were = from.clone();
        for (int k = 0; k < a[4]; k++) {
          to[i(a[3]) + k] = were[i(a[1]) + k];
        }
        return i(a[4]);
      }
      case "forces": {
        sheetThere(a[0]);
        long[] row = sheet(a[0]);
        for (int k = 0; k < row.length; k++) {
          if (!in(row[k], 0, 99)) {
            return k;
          }
          r.force[k] = i(row[k]);
        }
        return row.length;
      }
      case "judge": {
        sheetThere(a[0]);
        long[] row = sheet(a[0]);
        int[] course = r.course();
        for (int k = 0; k < row.length; k++) {
          if (k == 12 || row[k] != course[k]) {
            return k;
          }
        }
        return row.length;
      }
      case "image":
        image = r.copy();
        return ++images;
      case "restore":
        need(image != null, NONE);
        r = image.copy();
        return r.hour;
      case "tell":
        need(r.waiting.size() < 24, FULL);
        r.waiting.add(i(a[0]));
        return r.waiting.size();
      case "check": {
        List<Integer> waited = new ArrayList<>(r.waiting);
        r.waiting.clear();
        wheelThere(a[0]);
        for (int k = 0; k < waited.size(); k++) {
          if (r.later(k + 1).mills.get(i(a[0])).counter != waited.get(k)) {
            return 1 + k;
          }
        }
        return 0;
      }
      case "count":
        need(in(a[0], 0, 22), BEYOND);
        return a[0] >= 11 ? r.weed[i(a[0]) - 11] : new int[] {r.mills.size(), r.hour,
            r.force[r.hour % 24], r.course()[12], r.course()[13], r.frost,
            Arrays.stream(r.prayed).sum(), r.tape.length(), r.waiting.size(), trace.size(),
            r.z}[i(a[0])];
      case "told":
        need(in(a[0], 1, 6), BEYOND);
        return told[i(a[0])];
      default:
        throw new AssertionError(name);
    }
  }
}
