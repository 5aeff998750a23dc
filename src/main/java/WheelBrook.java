/** Prayer wheels in a brook; README.md says how to use it. */
public final class WheelBrook {
  private static final int LOW = -1000000000;
  private static final int BEYOND = 1;
  private static final int NONE = 2;
  private static final int STATE = 3;
  private static final int FULL = 4;
  private static final int KIND = 5;
  private static final int PARTED = 6;

  private static final int MOST_WHEELS = 8;
  private static final int PLACES = 12;
  private static final int FAMILIES = 5;
  private static final int DAY = 24;
  private static final int KINDS = 7;
  private static final int LAST_HOUR = 9999;
  private static final int MOST_FORCE = 99;
  private static final int MOST_TURNS = 9999;
  private static final int MOST_PRAYED = 999999;
  private static final int MOST_AHEAD = 240;
  private static final int MOST_BYTES = 60;
  private static final int MOST_WAITING = 24;
  private static final int MOST_NUMBERS = 24;
  private static final int MOST_TRACED = 30;

  private static final int SLOW = 1;
  private static final int HIDDEN = 2;
  private static final int DOUBLE = 3;
  private static final int SILENT = 4;
  private static final int FALSE = 5;
  private static final int TOLD = 6;
  /** The KIND above each KIND; WHEEL has none, so it stands above itself. */
  private static final int[] ABOVE = {0, 0, 0, 0, 1, 3, 0};
  /** The greatest value that set() takes for each of its parts. */
  private static final int[] MOST_SET = {6, 9, 11, 4, 1, 999999};

  private final Brook now = new Brook();
  private final Brook kept = new Brook();
  private final Brook trial = new Brook();
  private final Desk desk = new Desk();
  private final Desk keptDesk = new Desk();
  private final Reader reader = new Reader();
  private final Speaker speaker = new Speaker();
  private final Sheets sheets = new Sheets();
  private final int[] errors = new int[PARTED + 1];
  private int images;

  public WheelBrook() {
  }

  // ---- the brook, families, wheels

  public int force(int hour, int v) {
    if (outside(hour, 0, DAY - 1) || outside(v, 0, MOST_FORCE)) {
      return error(BEYOND);
    }
    int was = now.dayForce[hour];
    now.dayForce[hour] = v;
    return was;
  }

  public int weed(int place, int v) {
    if (outside(place, 0, PLACES - 1) || outside(v, 0, 9)) {
      return error(BEYOND);
    }
    int was = now.weeds[place];
    now.weeds[place] = v;
    return was;
  }

  public int frost(int v) {
    if (outside(v, 0, 9)) {
      return error(BEYOND);
    }
    int was = now.cold;
    now.cold = v;
    return was;
  }

  public int owe(int family, int v) {
    if (outside(family, 0, FAMILIES - 1) || outside(v, 0, 99999)) {
      return error(BEYOND);
    }
    int was = now.owed[family];
    now.owed[family] = v;
    return was;
  }

  public int familyIs(int family, int what) {
    if (outside(family, 0, FAMILIES - 1) || outside(what, 0, 3)) {
      return error(BEYOND);
    }
    return now.familyPart(family, what);
  }

  public int wheel(int km, int pf) {
    if (outside(km, 0, 10 * KINDS - 1) || outside(pf, 0, 10 * PLACES - 1)
        || outside(pf % 10, 0, FAMILIES - 1)) {
      return error(BEYOND);
    }
    if (now.size >= MOST_WHEELS) {
      return error(FULL);
    }
    now.addWheel(km, pf / 10, pf % 10);
    return now.size - 1;
  }

  public int wheelIs(int wheel, int what) {
    if (noWheel(wheel) || outside(what, 0, 9)) {
      return error(BEYOND);
    }
    return now.wheelPart(wheel, what);
  }

  public int as(int wheel, int kind) {
    if (noWheel(wheel) || outside(kind, 0, KINDS - 1)) {
      return error(BEYOND);
    }
    Wheel w = now.wheels[wheel];
    if (!isUnder(w.kind, kind)) {
      return error(KIND);
    }
    return w.counter;
  }

  public int set(int wheel, int what, int v) {
    if (noWheel(wheel) || outside(what, 0, MOST_SET.length - 1) || outside(v, 0, MOST_SET[what])) {
      return error(BEYOND);
    }
    Wheel w = now.wheels[wheel];
    int was = w.part(what);
    w.change(what, v);
    return was;
  }

  public int flows(int place) {
    if (outside(place, 0, PLACES - 1)) {
      return error(BEYOND);
    }
    now.letFlow();
    return now.flow[place];
  }

  // ---- texts

  public int feed(long word, int n) {
    if (outside(n, 1, 8)) {
      return error(BEYOND);
    }
    if (desk.taped + n > MOST_BYTES) {
      return error(FULL);
    }
    desk.addBytes(word, n);
    return desk.taped;
  }

  public int text(int use) {
    if (outside(use, 0, 1)) {
      return error(BEYOND);
    }
    int fault = reader.read(desk.tape, desk.taped, use);
    desk.taped = 0;
    if (fault >= 0) {
      return -10 - fault;
    }
    now.law(use).learn(reader.code, reader.size);
    return 1;
  }

  public int untell(int use) {
    if (outside(use, 0, 1)) {
      return error(BEYOND);
    }
    Law law = now.law(use);
    int was = law.size > 0 ? 1 : 0;
    law.size = 0;
    return was;
  }

  // ---- hours, sales

  public int hours(int n) {
    if (outside(n, 1, MOST_AHEAD)) {
      return error(BEYOND);
    }
    if (now.hour + n > LAST_HOUR) {
      return error(STATE);
    }
    now.passHours(n);
    return now.prayedOfAll();
  }

  public int draws(int n) {
    if (outside(n, 1, 60)) {
      return error(BEYOND);
    }
    if (now.hour + n > LAST_HOUR) {
      return error(STATE);
    }
    int floods = 0;
    for (int i = 0; i < n; i++) {
      floods += now.drawWeather();
      now.passHour();
    }
    return floods;
  }

  public int seed(int v) {
    int was = now.z;
    now.z = v;
    return was;
  }

  public int sell(int from, int to, int n) {
    if (outside(from, 0, FAMILIES - 1) || outside(to, 0, FAMILIES - 1) || from == to
        || outside(n, 1, 9999)) {
      return error(BEYOND);
    }
    if (now.prayed[from] < n) {
      return error(STATE);
    }
    now.prayed[from] -= n;
    now.prayed[to] = Math.min(now.prayed[to] + n, MOST_PRAYED);
    return now.prayed[to];
  }

  public int fair(int one, int other) {
    if (outside(one, 0, FAMILIES - 1) || outside(other, 0, FAMILIES - 1) || one == other) {
      return error(BEYOND);
    }
    int ofOne = now.prayed[one] - now.owed[one];
    int ofOther = now.prayed[other] - now.owed[other];
    return (ofOne - ofOther) / 2;
  }

  // ---- ahead

  public int then(int n, int wheel, int what) {
    if (outside(n, 0, MOST_AHEAD) || noWheel(wheel) || outside(what, 0, 9)) {
      return error(BEYOND);
    }
    trial.copyFrom(now);
    trial.passHours(n);
    return trial.wheelPart(wheel, what);
  }

  public int thenFamily(int n, int family, int what) {
    if (outside(n, 0, MOST_AHEAD) || outside(family, 0, FAMILIES - 1) || outside(what, 0, 3)) {
      return error(BEYOND);
    }
    trial.copyFrom(now);
    trial.passHours(n);
    return trial.familyPart(family, what);
  }

  public int when(int family, int n) {
    if (outside(family, 0, FAMILIES - 1) || outside(n, 0, MOST_AHEAD)) {
      return error(BEYOND);
    }
    trial.copyFrom(now);
    for (int behind = 0; behind <= n; behind++) {
      if (trial.isPaid(family)) {
        return behind;
      }
      trial.passHour();
    }
    return error(NONE);
  }

  public int sluices(int n, int what) {
    if (outside(n, 1, 6) || outside(what, 0, 1)) {
      return error(BEYOND);
    }
    int best = -1;
    int least = 0;
    for (int bits = 0; bits < 1 << now.size; bits++) {
      trial.copyFrom(now);
      trial.openOnly(bits);
      int taken = trial.passHours(n);
      if (trial.allArePaid() && (best < 0 || taken < least)) {
        best = bits;
        least = taken;
      }
    }
    if (best < 0) {
      return error(NONE);
    }
    return what == 0 ? best : least;
  }

  public int fewer(int km, int place, int n) {
    if (outside(km, 0, 10 * KINDS - 1) || outside(place, 0, PLACES - 1) || outside(n, 1, 48)) {
      return error(BEYOND);
    }
    int others = now.size;
    if (others >= MOST_WHEELS) {
      return error(FULL);
    }
    trial.copyFrom(now);
    int without = trial.turnsIn(n, 0, others);
    trial.copyFrom(now);
    trial.addWheel(km, place, 0);
    return without - trial.turnsIn(n, 0, others);
  }

  public int bestPlace(int km, int n) {
    if (outside(km, 0, 10 * KINDS - 1) || outside(n, 1, 48)) {
      return error(BEYOND);
    }
    int added = now.size;
    if (added >= MOST_WHEELS) {
      return error(FULL);
    }
    int best = 0;
    int most = -1;
    for (int place = 0; place < PLACES; place++) {
      trial.copyFrom(now);
      trial.addWheel(km, place, 0);
      int turns = trial.turnsIn(n, added, added + 1);
      if (turns > most) {
        best = place;
        most = turns;
      }
    }
    return best;
  }

  // ---- what was missing

  public int who(int gone, int what) {
    if (outside(gone, 0, MOST_FORCE) || outside(what, 0, 3)) {
      return error(BEYOND);
    }
    int sets = 0;
    int least = 0;
    int surely = (1 << now.size) - 1;
    int maybe = 0;
    trial.copyFrom(now);
    for (int bits = 0; bits < 1 << now.size; bits++) {
      trial.openOnly(bits);
      trial.letFlow();
      if (trial.gone == gone) {
        if (sets == 0) {
          least = bits;
        }
        sets++;
        surely &= bits;
        maybe |= bits;
      }
    }
    if (sets == 0 && (what == 1 || what == 2)) {
      return error(NONE);
    }
    switch (what) {
      case 0: return sets;
      case 1: return least;
      case 2: return surely;
      default: return maybe;
    }
  }

  public int slipped() {
    int bits = 0;
    for (int i = 0; i < now.size; i++) {
      if (now.wheels[i].counter != now.wheels[i].turned) {
        bits |= 1 << i;
      }
    }
    return bits;
  }

  // ---- voices, sheets, images, what is told

  public int voice(int wheel, int voice, int x) {
    if (noWheel(wheel) || outside(voice, 0, 3)) {
      return error(BEYOND);
    }
    Wheel w = now.wheels[wheel];
    int answer = speaker.answer(w.kind, wheel, w.m, voice, x);
    return speaker.parted ? error(PARTED) : answer;
  }

  public int body(int i) {
    if (outside(i, 0, speaker.traced - 1)) {
      return error(NONE);
    }
    return speaker.trace[i];
  }

  public int sheet(int sheet, int bits, int n) {
    if (noSheet(sheet) || (bits != 0 && bits != 8 && bits != 16 && bits != 32)) {
      return error(BEYOND);
    }
    if (bits != 0 && n < 0) {
      return error(STATE);
    }
    if (bits != 0 && n > MOST_NUMBERS) {
      return error(BEYOND);
    }
    sheets.begin(sheet, bits, bits == 0 ? 0 : n);
    return 1;
  }

  public int put(int sheet, int i, int v) {
    if (noSheet(sheet)) {
      return error(BEYOND);
    }
    if (sheets.isMissing(sheet)) {
      return error(NONE);
    }
    if (outside(i, 0, sheets.sizes[sheet] - 1)) {
      return error(BEYOND);
    }
    sheets.rows[sheet][i] = sheets.lowest(sheet, v);
    return 1;
  }

  public int move(int sheet, int i, int other, int j, int n) {
    if (noSheet(sheet) || noSheet(other)) {
      return error(BEYOND);
    }
    if (sheets.isMissing(sheet) || sheets.isMissing(other)) {
      return error(NONE);
    }
    if (sheets.widths[sheet] != sheets.widths[other]) {
      return error(KIND);
    }
    if (!sheets.stand(sheet, i, n) || !sheets.stand(other, j, n)) {
      return error(BEYOND);
    }
    System.arraycopy(sheets.rows[sheet], i, sheets.rows[other], j, n);
    return n;
  }

  public int forces(int sheet) {
    if (noSheet(sheet)) {
      return error(BEYOND);
    }
    if (sheets.isMissing(sheet)) {
      return error(NONE);
    }
    int came = 0;
    while (came < sheets.sizes[sheet] && came < DAY
        && !outside(sheets.rows[sheet][came], 0, MOST_FORCE)) {
      now.dayForce[came] = sheets.rows[sheet][came];
      came++;
    }
    return came;
  }

  public int judge(int sheet) {
    if (noSheet(sheet)) {
      return error(BEYOND);
    }
    if (sheets.isMissing(sheet)) {
      return error(NONE);
    }
    now.letFlow();
    int right = 0;
    while (right < sheets.sizes[sheet] && right < PLACES
        && sheets.rows[sheet][right] == now.flow[right]) {
      right++;
    }
    return right;
  }

  public int image() {
    kept.copyFrom(now);
    keptDesk.copyFrom(desk);
    images++;
    return images;
  }

  public int restore() {
    if (images == 0) {
      return error(NONE);
    }
    now.copyFrom(kept);
    desk.copyFrom(keptDesk);
    return now.hour;
  }

  public int tell(int v) {
    if (desk.waiting >= MOST_WAITING) {
      return error(FULL);
    }
    desk.numbers[desk.waiting] = v;
    desk.waiting++;
    return desk.waiting;
  }

  public int check(int wheel) {
    int waited = desk.waiting;
    desk.waiting = 0;
    if (noWheel(wheel)) {
      return error(BEYOND);
    }
    trial.copyFrom(now);
    for (int i = 0; i < waited; i++) {
      trial.passHour();
      if (trial.wheels[wheel].counter != desk.numbers[i]) {
        return 1 + i;
      }
    }
    return 0;
  }

  public int count(int what) {
    if (outside(what, 0, 10 + PLACES)) {
      return error(BEYOND);
    }
    switch (what) {
      case 0: return now.size;
      case 1: return now.hour;
      case 2: return now.forceNow();
      case 3: now.letFlow(); return now.gone;
      case 4: now.letFlow(); return now.lost;
      case 5: return now.cold;
      case 6: return now.prayedOfAll();
      case 7: return desk.taped;
      case 8: return desk.waiting;
      case 9: return speaker.traced;
      case 10: return now.z;
      default: return now.weeds[what - 11];
    }
  }

  public int told(int k) {
    if (outside(k, BEYOND, PARTED)) {
      return error(BEYOND);
    }
    return errors[k];
  }

  private int error(int k) {
    errors[k]++;
    return LOW - k;
  }

  private boolean noWheel(int wheel) {
    return outside(wheel, 0, now.size - 1);
  }

  private static boolean noSheet(int sheet) {
    return outside(sheet, 0, Sheets.ROWS - 1);
  }

  private static boolean outside(int v, int least, int most) {
    return v < least || v > most;
  }

  private static int held(int v, int least, int most) {
    return Math.max(least, Math.min(v, most));
  }

  private static boolean isUnder(int kind, int above) {
    int k = kind;
    for (int i = 0; i < KINDS && k != above; i++) {
      k = ABOVE[k];
    }
    return k == above;
  }

  /** One wheel, and what it did in the hour that was worked out last. */
  private static final class Wheel {
    int kind;
    int m;
    int place;
    int family;
    int open;
    int counter;
    int turned;
    int took;
    int turns;

    int part(int what) {
      switch (what) {
        case 0: return kind;
        case 1: return m;
        case 2: return place;
        case 3: return family;
        case 4: return open;
        case 5: return counter;
        default: return turned;
      }
    }

    void change(int what, int v) {
      switch (what) {
        case 0: kind = v; break;
        case 1: m = v; break;
        case 2: place = v; break;
        case 3: family = v; break;
        case 4: open = v; break;
        case 5: counter = v; break;
        default: turned = v; break;
      }
    }

    void copyFrom(Wheel other) {
      kind = other.kind;
      m = other.m;
      place = other.place;
      family = other.family;
      open = other.open;
      counter = other.counter;
      turned = other.turned;
    }
  }

  /** What goes by with the hours: the brook, its wheels, the families and the laws. */
  private static final class Brook {
    final int[] dayForce = new int[DAY];
    final int[] weeds = new int[PLACES];
    final int[] owed = new int[FAMILIES];
    final int[] prayed = new int[FAMILIES];
    final Wheel[] wheels = new Wheel[MOST_WHEELS];
    final Law takes = new Law();
    final Law turns = new Law();
    final int[] names = new int[4];
    final int[] flow = new int[PLACES];
    int size;
    int hour;
    int cold;
    int z = 1;
    int gone;
    int lost;

    Brook() {
      for (int i = 0; i < DAY; i++) {
        dayForce[i] = 30;
      }
      for (int i = 0; i < MOST_WHEELS; i++) {
        wheels[i] = new Wheel();
      }
    }

    void copyFrom(Brook other) {
      System.arraycopy(other.dayForce, 0, dayForce, 0, DAY);
      System.arraycopy(other.weeds, 0, weeds, 0, PLACES);
      System.arraycopy(other.owed, 0, owed, 0, FAMILIES);
      System.arraycopy(other.prayed, 0, prayed, 0, FAMILIES);
      for (int i = 0; i < other.size; i++) {
        wheels[i].copyFrom(other.wheels[i]);
      }
      takes.learn(other.takes.code, other.takes.size);
      turns.learn(other.turns.code, other.turns.size);
      size = other.size;
      hour = other.hour;
      cold = other.cold;
      z = other.z;
    }

    Law law(int use) {
      return use == 0 ? takes : turns;
    }

    void addWheel(int km, int place, int family) {
      if (size < MOST_WHEELS) {
        Wheel w = wheels[size];
        w.kind = km / 10;
        w.m = km % 10;
        w.place = place;
        w.family = family;
        w.open = 1;
        w.counter = 0;
        w.turned = 0;
        size++;
      }
    }

    void openOnly(int bits) {
      for (int i = 0; i < size; i++) {
        wheels[i].open = bits >> i & 1;
      }
    }

    int forceNow() {
      return dayForce[hour % DAY];
    }

    /** Works out what flows, is taken, LOST and GONE in this hour. */
    void letFlow() {
      int f = forceNow();
      lost = 0;
      for (int place = 0; place < PLACES; place++) {
        flow[place] = f;
        int inWeed = Math.min(f, weeds[place]);
        lost += inWeed;
        f -= inWeed;
        for (int i = 0; i < size; i++) {
          Wheel w = wheels[i];
          if (w.place == place) {
            w.took = wants(w, f);
            f -= w.took;
          }
        }
      }
      gone = f;
    }

    private int wants(Wheel w, int f) {
      if (w.open == 0 || w.m < cold) {
        return 0;
      }
      switch (w.kind) {
        case SLOW:
        case SILENT: return held(f / 3 + w.m, 0, f);
        case HIDDEN: return held(w.m, 0, f);
        case DOUBLE:
        case FALSE: return held(f / 3 * 2, 0, f);
        case TOLD: return held(toldTakes(w, f), 0, f);
        default: return held(f / 3, 0, f);
      }
    }

    private int toldTakes(Wheel w, int f) {
      if (takes.size == 0) {
        return f / 2;
      }
      names[0] = f;
      names[1] = w.place;
      names[2] = hour % DAY;
      names[3] = w.m;
      return takes.value(names);
    }

    private int turnsBy(Wheel w, int t) {
      switch (w.kind) {
        case SLOW: return held(t / 2, 0, MOST_TURNS);
        case SILENT: return held(t / 2 > 0 ? t / 2 + 1 : 0, 0, MOST_TURNS);
        case DOUBLE: return held(2 * t, 0, MOST_TURNS);
        case FALSE: return 0;
        case TOLD: return held(toldTurns(w, t), 0, MOST_TURNS);
        default: return held(t, 0, MOST_TURNS);
      }
    }

    private int toldTurns(Wheel w, int t) {
      if (turns.size == 0) {
        return t;
      }
      names[0] = t;
      names[1] = w.counter;
      names[2] = w.m;
      names[3] = 0;
      return turns.value(names);
    }

    private static int showsBy(Wheel w, int t, int turns) {
      switch (w.kind) {
        case SILENT: return 0;
        case FALSE: return held(2 * t, 0, MOST_TURNS);
        case HIDDEN: return turns / 2;
        default: return turns;
      }
    }

    /** Answers how much FORCE was taken. */
    int passHour() {
      int taken = 0;
      letFlow();
      for (int i = 0; i < size; i++) {
        Wheel w = wheels[i];
        taken += w.took;
        w.turns = turnsBy(w, w.took);
        turnMore(w, w.turns);
        w.counter = Math.min(w.counter + showsBy(w, w.took, w.turns), MOST_PRAYED);
      }
      hour++;
      return taken;
    }

    /** Answers how much FORCE was taken in all. */
    int passHours(int n) {
      int taken = 0;
      for (int i = 0; i < n; i++) {
        taken += passHour();
      }
      return taken;
    }

    /** How many TURNS the wheels from one number on, up to another, make in n hours. */
    int turnsIn(int n, int from, int to) {
      int sum = 0;
      for (int i = 0; i < n; i++) {
        passHour();
        for (int k = from; k < to && k < size; k++) {
          sum += wheels[k].turns;
        }
      }
      return sum;
    }

    private void turnMore(Wheel w, int more) {
      w.turned = Math.min(w.turned + more, MOST_PRAYED);
      prayed[w.family] = Math.min(prayed[w.family] + more, MOST_PRAYED);
    }

    /** Draws once for the hour to come; answers how many floods (0 or 1) that brought. */
    int drawWeather() {
      z = z * 1103515245 + 12345;
      int rest = (z >>> 8) % 16;
      if (rest == 0) {
        flood();
        return 1;
      }
      if (rest <= 3) {
        cold = Math.min(cold + 1, 9);
      } else if (rest <= 6) {
        cold = Math.max(cold - 1, 0);
      }
      return 0;
    }

    private void flood() {
      for (int i = 0; i < size; i++) {
        if (wheels[i].open == 1) {
          turnMore(wheels[i], wheels[i].m);
        }
      }
    }

    boolean isPaid(int family) {
      return prayed[family] >= owed[family];
    }

    boolean allArePaid() {
      for (int family = 0; family < FAMILIES; family++) {
        if (!isPaid(family)) {
          return false;
        }
      }
      return true;
    }

    int prayedOfAll() {
      int sum = 0;
      for (int family = 0; family < FAMILIES; family++) {
        sum += prayed[family];
      }
      return sum;
    }

    int familyPart(int family, int what) {
      switch (what) {
        case 0: return owed[family];
        case 1: return prayed[family];
        case 2: return isPaid(family) ? 1 : 0;
        default: return wheelsFor(family);
      }
    }

    private int wheelsFor(int family) {
      int sum = 0;
      for (int i = 0; i < size; i++) {
        if (wheels[i].family == family) {
          sum++;
        }
      }
      return sum;
    }

    int wheelPart(int wheel, int what) {
      Wheel w = wheels[wheel];
      if (what < 7) {
        return w.part(what);
      }
      letFlow();
      if (what == 7) {
        return w.took;
      }
      int byThat = turnsBy(w, w.took);
      return what == 8 ? byThat : showsBy(w, w.took, byThat);
    }
  }

  /** A TEXT as steps for a stack: numbers, names (from NAME on), signs (below 0). */
  private static final class Law {
    static final int NAME = 10000;

    final int[] code = new int[MOST_BYTES];
    final int[] stack = new int[MOST_BYTES];
    int size;

    void learn(int[] from, int steps) {
      if (steps >= 0 && steps <= MOST_BYTES && steps <= from.length) {
        System.arraycopy(from, 0, code, 0, steps);
        size = steps;
      }
    }

    int value(int[] names) {
      int high = 0;
      for (int i = 0; i < size && i < MOST_BYTES; i++) {
        int step = code[i];
        if (step >= 0) {
          if (high < MOST_BYTES) {
            stack[high] = step < NAME ? step : nameOf(names, step - NAME);
            high++;
          }
        } else if (step == -'!') {
          if (high >= 1) {
            stack[high - 1] = stack[high - 1] == 0 ? 1 : 0;
          }
        } else if (high >= 2) {
          high--;
          stack[high - 1] = joined(-step, stack[high - 1], stack[high]);
        }
      }
      return high == 1 ? stack[0] : 0;
    }

    private static int nameOf(int[] names, int i) {
      return i >= 0 && i < names.length ? names[i] : 0;
    }

    private static int joined(int sign, int a, int b) {
      switch (sign) {
        case '|': return a != 0 || b != 0 ? 1 : 0;
        case '&': return a != 0 && b != 0 ? 1 : 0;
        case '<': return a < b ? 1 : 0;
        case '=': return a == b ? 1 : 0;
        case '>': return a > b ? 1 : 0;
        case '+': return a + b;
        case '-': return a - b;
        case '*': return a * b;
        case '/': return b == 0 ? 0 : a / b;
        default: return b == 0 ? 0 : a % b;
      }
    }
  }

  /** Reads a TEXT byte by byte; signs wait until what binds closer has been written. */
  private static final class Reader {
    static final int MOST_OPEN = 5;
    static final int MOST_DIGITS = 4;
    static final int COMPARING = 3;

    final int[] code = new int[MOST_BYTES];
    final int[] signs = new int[MOST_BYTES];
    int size;
    int waiting;
    int open;
    int brackets;
    int digits;
    boolean wanting;

    /** Answers the FAULT, or -1 if the bytes are a TEXT. */
    int read(byte[] tape, int n, int use) {
      size = 0;
      waiting = 0;
      open = 0;
      brackets = 0;
      digits = 0;
      wanting = true;
      for (int i = 0; i < n && i < tape.length; i++) {
        if (!goesOn(tape[i] & 255, use)) {
          return i;
        }
      }
      if (wanting || brackets > 0) {
        return n;
      }
      writeSigns(1);
      return -1;
    }

    private boolean goesOn(int b, int use) {
      if (b >= '0' && b <= '9') {
        return digit(b - '0');
      }
      digits = 0;
      return wanting ? opens(b, use) : follows(b);
    }

    private boolean digit(int d) {
      if (wanting) {
        write(d);
        wanting = false;
        digits = 1;
        return true;
      }
      if (digits == 0 || digits >= MOST_DIGITS || size == 0) {
        return false;
      }
      code[size - 1] = code[size - 1] * 10 + d;
      digits++;
      return true;
    }

    private boolean opens(int b, int use) {
      if (b == '!' || b == '(') {
        if (open >= MOST_OPEN) {
          return false;
        }
        open++;
        brackets += b == '(' ? 1 : 0;
        hold(b);
        return true;
      }
      int name = (use == 0 ? "fphm" : "tcm").indexOf((char) b);
      if (name < 0) {
        return false;
      }
      write(Law.NAME + name);
      wanting = false;
      return true;
    }

    private boolean follows(int b) {
      if (b == ')') {
        return closes();
      }
      int rank = rankOf(b);
      if (rank == 0) {
        return false;
      }
      writeSigns(rank == COMPARING ? rank + 1 : rank);
      // two comparisons do not stand side by side
      if (rank == COMPARING && waiting > 0 && rankOf(signs[waiting - 1]) == COMPARING) {
        return false;
      }
      hold(b);
      wanting = true;
      return true;
    }

    private boolean closes() {
      if (brackets == 0) {
        return false;
      }
      writeSigns(1);
      if (waiting > 0) {
        waiting--;
      }
      brackets--;
      open--;
      return true;
    }

    /** Writes the signs that wait, down to a bracket or to one that binds less than rank. */
    private void writeSigns(int rank) {
      for (int i = 0; i < MOST_BYTES && waiting > 0; i++) {
        int sign = signs[waiting - 1];
        if (sign != '!' && rankOf(sign) < rank) {
          return;
        }
        open -= sign == '!' ? 1 : 0;
        waiting--;
        write(-sign);
      }
    }

    private void write(int step) {
      if (size < MOST_BYTES) {
        code[size] = step;
        size++;
      }
    }

    private void hold(int sign) {
      if (waiting < MOST_BYTES) {
        signs[waiting] = sign;
        waiting++;
      }
    }

    /** How closely a sign between two values binds; 0: it is none. */
    private static int rankOf(int sign) {
      switch (sign) {
        case '|': return 1;
        case '&': return 2;
        case '<':
        case '=':
        case '>': return COMPARING;
        case '+':
        case '-': return 4;
        case '*':
        case '/':
        case '%': return 5;
        default: return 0;
      }
    }
  }

  /** THE TAPE, and the numbers that wait. */
  private static final class Desk {
    final byte[] tape = new byte[MOST_BYTES];
    final int[] numbers = new int[MOST_WAITING];
    int taped;
    int waiting;

    void addBytes(long word, int n) {
      for (int i = 0; i < n && taped < MOST_BYTES; i++) {
        tape[taped] = (byte) (word >>> 8 * i);
        taped++;
      }
    }

    void copyFrom(Desk other) {
      System.arraycopy(other.tape, 0, tape, 0, MOST_BYTES);
      System.arraycopy(other.numbers, 0, numbers, 0, MOST_WAITING);
      taped = other.taped;
      waiting = other.waiting;
    }
  }

  /** Works out VOICES, and keeps THE TRACE. */
  private static final class Speaker {
    static final int FLOWS = 0;
    static final int TURNS = 1;
    static final int PRAYS = 2;
    static final int PARTS = 3;
    static final int MOST_DEPTH = 40;
    /** The BODIES of each KIND by VOICES; 0: it has none of its own. */
    static final int[] BODIES = {
      10, 11, 12, 13,
      20, 0, 0, 21,
      0, 30, 0, 0,
      0, 0, 40, 0,
      50, 0, 51, 0,
      0, 60, 0, 0,
      70, 71, 0, 0};

    final int[] trace = new int[MOST_TRACED];
    int traced;
    boolean parted;
    int kind;
    int number;
    int m;

    int answer(int ofKind, int ofNumber, int ofM, int asked, int x) {
      kind = ofKind;
      number = ofNumber;
      m = ofM;
      traced = 0;
      parted = false;
      return speak(kind, asked, x, 0);
    }

    /** The BODY of a KIND, or of the next one above that has one. */
    private int speak(int from, int asked, int x, int depth) {
      if (depth > MOST_DEPTH || asked < FLOWS || asked > PARTS) {
        return 0;
      }
      int at = from;
      for (int i = 0; i < KINDS && BODIES[4 * at + asked] == 0; i++) {
        at = ABOVE[at];
      }
      int begun = BODIES[4 * at + asked];
      if (traced < MOST_TRACED) {
        trace[traced] = begun;
        traced++;
      }
      return begun < 20 ? ofWheel(begun, x, depth) : ofOthers(begun, ABOVE[at], x, depth);
    }

    private int ofWheel(int begun, int x, int depth) {
      switch (begun) {
        case 10: return x + number;
        case 11: return speak(kind, FLOWS, x, depth + 1) * 2;
        case 12: return speak(kind, TURNS, x, depth + 1) - m;
        default: return divided(x, m - number);
      }
    }

    private int divided(int x, int by) {
      if (by == 0) {
        parted = true;
        return 0;
      }
      return x / by;
    }

    private int ofOthers(int begun, int above, int x, int depth) {
      int next = depth + 1;
      switch (begun) {
        case 20: return speak(above, FLOWS, x, next) - 4;
        case 21: return partsOfSlow(above, x, next);
        case 30: return 0 - speak(above, TURNS, x, next);
        case 40: return speak(above, PRAYS, x / 2, next);
        case 50: return speak(above, FLOWS, x, next) * 3;
        case 51: return speak(above, PRAYS, x, next) ^ number;
        case 60: return speak(above, TURNS, x + 1, next);
        case 70: return 2;
        default: return speak(above, TURNS, x, next) + m;
      }
    }

    private int partsOfSlow(int above, int x, int depth) {
      int left = speak(above, PARTS, x, depth);
      // what is PARTED ends the voice: nothing right of it begins
      if (parted) {
        return 0;
      }
      return left + speak(kind, TURNS, 1, depth);
    }
  }

  /** Rows of numbers. */
  private static final class Sheets {
    static final int ROWS = 4;

    final int[][] rows = new int[ROWS][MOST_NUMBERS];
    final int[] widths = new int[ROWS];
    final int[] sizes = new int[ROWS];

    boolean isMissing(int row) {
      return widths[row] == 0;
    }

    void begin(int row, int bits, int n) {
      for (int i = 0; i < MOST_NUMBERS; i++) {
        rows[row][i] = 0;
      }
      widths[row] = bits;
      sizes[row] = n;
    }

    int lowest(int row, int v) {
      switch (widths[row]) {
        case 8: return (byte) v;
        case 16: return (short) v;
        default: return v;
      }
    }

    /** Whether n numbers stand from number i on. */
    boolean stand(int row, int i, int n) {
      return i >= 0 && n >= 0 && n <= sizes[row] && i <= sizes[row] - n;
    }
  }
}
