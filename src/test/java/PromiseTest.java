/** For each promise: ordinary inputs, the edges that the document names, and wrong inputs. */
public final class PromiseTest {
  static final int BEYOND = -1000000001;
  static final int NONE = -1000000002;
  static final int STATE = -1000000003;
  static final int FULL = -1000000004;
  static final int KIND = -1000000005;
  static final int PARTED = -1000000006;

  private static int wrong;
  private static int asked;

  private static void due(int promise, String call, long got, long want) {
    asked++;
    if (got != want) {
      wrong++;
      System.out.println("promise " + promise + ": " + call + " answered " + got + ", due is " + want);
    }
  }

  /** Feeds a text to the tape and has it read. */
  private static int learn(WheelBrook x, int use, String text) {
    feed(x, text);
    return x.text(use);
  }

  private static void feed(WheelBrook x, String text) {
    for (int i = 0; i < text.length(); i++) {
      x.feed(text.charAt(i), 1);
    }
  }

  /** What a text of use 0 makes of f 99, p 7, h 0, m 5, as far as 0 .. 99 shows it. */
  private static int worth(String text) {
    WheelBrook x = new WheelBrook();
    x.force(0, 99);
    x.wheel(65, 70);
    int got = learn(x, 0, text);
    return got == 1 ? x.wheelIs(0, 7) : got;
  }

  private static void errors(WheelBrook x, int promise, int... counts) {
    for (int k = 1; k <= 6; k++) {
      due(promise, "told(" + k + ")", x.told(k), counts[k - 1]);
    }
  }

  public static void main(String[] args) {
    newObject();
    forceWeedFrost();
    familyCalls();
    wheels();
    wants();
    turnsAndShows();
    asAndSet();
    flowsAndLost();
    tape();
    texts();
    faults();
    untell();
    hours();
    draws();
    sales();
    ahead();
    when();
    sluices();
    fewerAndBest();
    whoAndSlipped();
    eight();
    voices();
    sheets();
    moves();
    forcesAndJudge();
    images();
    tellAndCheck();
    counts();
    told();
    System.out.println("PromiseTest: " + asked + " answers asked for, " + wrong + " wrong");
    if (wrong != 0) {
      System.exit(1);
    }
  }

  private static void newObject() {
    WheelBrook x = new WheelBrook();
    int[] first = {0, 0, 30, 30, 0, 0, 0, 0, 0, 0, 1};
    for (int i = 0; i <= 22; i++) {
      due(1, "count(" + i + ")", x.count(i), i < first.length ? first[i] : 0);
    }
    for (int family = 0; family < 5; family++) {
      due(1, "owed", x.familyIs(family, 0), 0);
      due(1, "prayed", x.familyIs(family, 1), 0);
      due(1, "paid", x.familyIs(family, 2), 1);
      due(1, "wheels for it", x.familyIs(family, 3), 0);
    }
    for (int hour = 0; hour < 24; hour++) {
      due(1, "force(" + hour + ", 30)", x.force(hour, 30), 30);
    }
    due(1, "wheelIs(0, 0)", x.wheelIs(0, 0), BEYOND);
    due(1, "untell(0)", x.untell(0), 0);
    due(1, "untell(1)", x.untell(1), 0);
    due(1, "body(0)", x.body(0), NONE);
    due(1, "restore()", x.restore(), NONE);
    for (int sheet = 0; sheet < 4; sheet++) {
      due(1, "forces(" + sheet + ")", x.forces(sheet), NONE);
    }
    due(1, "slipped()", x.slipped(), 0);
    WheelBrook y = new WheelBrook();
    y.wheel(0, 0);
    y.force(0, 1);
    due(1, "another object's wheels", x.count(0), 0);
    due(1, "another object's force", x.count(2), 30);
  }

  private static void forceWeedFrost() {
    WheelBrook x = new WheelBrook();
    due(2, "force(0, 0)", x.force(0, 0), 30);
    due(2, "force(0, 99)", x.force(0, 99), 0);
    due(2, "count(2)", x.count(2), 99);
    due(2, "force(23, 1)", x.force(23, 1), 30);
    due(2, "force(1, 7)", x.force(1, 7), 30);
    due(2, "force(-1, 0)", x.force(-1, 0), BEYOND);
    due(2, "force(24, 0)", x.force(24, 0), BEYOND);
    due(2, "force(0, -1)", x.force(0, -1), BEYOND);
    due(2, "force(0, 100)", x.force(0, 100), BEYOND);
    due(2, "force(0, 99)", x.force(0, 99), 99);
    x.hours(1);
    due(2, "force now", x.count(2), 7);
    x.hours(22);
    due(2, "force now", x.count(2), 1);
    x.hours(1);
    due(2, "force now", x.count(2), 99);
    due(3, "weed(0, 9)", x.weed(0, 9), 0);
    due(3, "weed(0, 3)", x.weed(0, 3), 9);
    due(3, "weed(11, 2)", x.weed(11, 2), 0);
    due(3, "weed(-1, 0)", x.weed(-1, 0), BEYOND);
    due(3, "weed(12, 0)", x.weed(12, 0), BEYOND);
    due(3, "weed(0, -1)", x.weed(0, -1), BEYOND);
    due(3, "weed(0, 10)", x.weed(0, 10), BEYOND);
    due(3, "count(11)", x.count(11), 3);
    due(3, "count(22)", x.count(22), 2);
    due(3, "count(12)", x.count(12), 0);
    due(4, "frost(9)", x.frost(9), 0);
    due(4, "frost(-1)", x.frost(-1), BEYOND);
    due(4, "frost(10)", x.frost(10), BEYOND);
    due(4, "frost(0)", x.frost(0), 9);
    due(4, "count(5)", x.count(5), 0);
  }

  private static void familyCalls() {
    WheelBrook x = new WheelBrook();
    due(5, "owe(0, 99999)", x.owe(0, 99999), 0);
    due(5, "owe(0, 12)", x.owe(0, 12), 99999);
    due(5, "owe(4, 1)", x.owe(4, 1), 0);
    due(5, "owe(-1, 0)", x.owe(-1, 0), BEYOND);
    due(5, "owe(5, 0)", x.owe(5, 0), BEYOND);
    due(5, "owe(0, -1)", x.owe(0, -1), BEYOND);
    due(5, "owe(0, 100000)", x.owe(0, 100000), BEYOND);
    due(6, "familyIs(0, 0)", x.familyIs(0, 0), 12);
    due(6, "familyIs(0, 2)", x.familyIs(0, 2), 0);
    x.wheel(5, 0);
    x.wheel(5, 0);
    x.wheel(5, 4);
    due(6, "familyIs(0, 3)", x.familyIs(0, 3), 2);
    due(6, "familyIs(4, 3)", x.familyIs(4, 3), 1);
    due(6, "familyIs(1, 3)", x.familyIs(1, 3), 0);
    x.hours(1); // 10, 6 and 4 of 30
    due(6, "familyIs(0, 1)", x.familyIs(0, 1), 16);
    due(6, "familyIs(0, 2)", x.familyIs(0, 2), 1);
    due(6, "familyIs(4, 1)", x.familyIs(4, 1), 4);
    x.owe(0, 16);
    due(6, "as much as owed", x.familyIs(0, 2), 1);
    x.owe(0, 17);
    due(6, "one too few", x.familyIs(0, 2), 0);
    due(6, "familyIs(-1, 0)", x.familyIs(-1, 0), BEYOND);
    due(6, "familyIs(5, 0)", x.familyIs(5, 0), BEYOND);
    due(6, "familyIs(0, -1)", x.familyIs(0, -1), BEYOND);
    due(6, "familyIs(0, 4)", x.familyIs(0, 4), BEYOND);
  }

  private static void wheels() {
    WheelBrook x = new WheelBrook();
    due(7, "wheel(-1, 0)", x.wheel(-1, 0), BEYOND);
    due(7, "wheel(70, 0)", x.wheel(70, 0), BEYOND);
    due(7, "wheel(0, -1)", x.wheel(0, -1), BEYOND);
    due(7, "wheel(0, 5)", x.wheel(0, 5), BEYOND);
    due(7, "wheel(0, 119)", x.wheel(0, 119), BEYOND);
    due(7, "wheel(0, 120)", x.wheel(0, 120), BEYOND);
    due(7, "count(0)", x.count(0), 0);
    for (int i = 0; i < 8; i++) {
      due(7, "wheel", x.wheel(i == 0 ? 69 : 10 * (i - 1) + i, i == 0 ? 114 : 10 * i + i % 5), i);
    }
    due(7, "wheel(0, 0)", x.wheel(0, 0), FULL);
    due(7, "wheel(0, 5) when full", x.wheel(0, 5), BEYOND);
    due(7, "count(0)", x.count(0), 8);
    int[] of0 = {6, 9, 11, 4, 1, 0, 0};
    int[] of3 = {2, 3, 3, 3, 1, 0, 0};
    for (int what = 0; what < 7; what++) {
      due(8, "wheelIs(0, " + what + ")", x.wheelIs(0, what), of0[what]);
      due(8, "wheelIs(3, " + what + ")", x.wheelIs(3, what), of3[what]);
    }
    due(8, "wheelIs(8, 0)", x.wheelIs(8, 0), BEYOND);
    due(8, "wheelIs(-1, 0)", x.wheelIs(-1, 0), BEYOND);
    due(8, "wheelIs(0, -1)", x.wheelIs(0, -1), BEYOND);
    due(8, "wheelIs(0, 10)", x.wheelIs(0, 10), BEYOND);
  }

  /** Takes, turns and shows of one wheel of kind and m, alone at place 0 with so much force. */
  private static void one(int km, int force, int took, int turns, int shows) {
    WheelBrook x = new WheelBrook();
    x.force(0, force);
    x.wheel(km, 3);
    due(8, "what " + km + " takes of " + force, x.wheelIs(0, 7), took);
    due(8, "turns of " + km + " by that", x.wheelIs(0, 8), turns);
    due(8, "shows of " + km + " by that", x.wheelIs(0, 9), shows);
    x.hours(1);
    due(15, "turned of " + km, x.wheelIs(0, 6), turns);
    due(15, "counter of " + km, x.wheelIs(0, 5), shows);
    due(15, "prayed by " + km, x.familyIs(3, 1), turns);
  }

  private static void wants() {
    one(5, 30, 10, 10, 10);
    one(5, 32, 10, 10, 10);
    one(5, 2, 0, 0, 0);
    one(14, 30, 14, 7, 7);
    one(15, 30, 15, 7, 7);
    one(19, 10, 10, 5, 5);
    one(19, 12, 12, 6, 6);
    one(27, 30, 7, 7, 3);
    one(27, 5, 5, 5, 2);
    one(21, 5, 1, 1, 0);
    one(30, 32, 20, 40, 40);
    one(30, 99, 66, 132, 132);
    one(30, 0, 0, 0, 0);
    one(44, 30, 14, 8, 0);
    one(40, 3, 1, 0, 0);
    one(40, 6, 2, 2, 0);
    one(41, 6, 3, 2, 0);
    one(55, 30, 20, 0, 40);
    one(60, 31, 15, 15, 15);
    for (int kind = 0; kind < 7; kind++) {
      one(10 * kind + 9, 0, 0, 0, 0);
    }
    WheelBrook x = new WheelBrook();
    x.wheel(5, 0);
    x.set(0, 4, 0);
    due(8, "shut", x.wheelIs(0, 7), 0);
    x.set(0, 4, 1);
    x.frost(5);
    due(8, "m as much as frost", x.wheelIs(0, 7), 10);
    x.frost(6);
    due(8, "m less than frost", x.wheelIs(0, 7), 0);
    due(8, "turns in frost", x.wheelIs(0, 8), 0);
    x.frost(0);
    x.wheel(23, 0);
    x.wheel(39, 0);
    due(8, "one behind the other", x.wheelIs(1, 7), 3);
    due(8, "one behind the other", x.wheelIs(2, 7), 10);
    x.set(0, 2, 1);
    due(8, "at another place", x.wheelIs(0, 7), 3);
    due(8, "ahead of it now", x.wheelIs(1, 7), 3);
    due(8, "ahead of it now", x.wheelIs(2, 7), 18);
  }

  private static void turnsAndShows() {
    WheelBrook x = new WheelBrook();
    x.wheel(64, 2);
    learn(x, 1, "9999*9");
    due(8, "turns held", x.wheelIs(0, 8), 9999);
    due(8, "shows held", x.wheelIs(0, 9), 9999);
    learn(x, 1, "0-5");
    due(8, "turns held", x.wheelIs(0, 8), 0);
    learn(x, 1, "t*100+c*10+m");
    due(8, "turns told", x.wheelIs(0, 8), 1504);
    x.set(0, 5, 7);
    due(8, "turns told with a counter", x.wheelIs(0, 8), 1574);
    learn(x, 1, "c/2+1");
    x.hours(3); // 7, 11, 17, 26
    due(15, "counter within the hours", x.wheelIs(0, 5), 26);
    due(15, "turned within the hours", x.wheelIs(0, 6), 19);
    learn(x, 1, "5");
    x.set(0, 4, 0);
    due(8, "a shut one's text", x.wheelIs(0, 7), 0);
    due(8, "a shut one's text", x.wheelIs(0, 8), 5);
    x.set(0, 0, 0);
    due(8, "no text for others", x.wheelIs(0, 8), 0);
  }

  private static void asAndSet() {
    boolean[][] under = new boolean[7][7];
    int[] above = {-1, 0, 0, 0, 1, 3, 0};
    for (int kind = 0; kind < 7; kind++) {
      for (int k = kind; k >= 0; k = above[k]) {
        under[kind][k] = true;
      }
    }
    for (int kind = 0; kind < 7; kind++) {
      WheelBrook x = new WheelBrook();
      x.wheel(10 * kind, 0);
      x.set(0, 5, 77);
      for (int as = 0; as < 7; as++) {
        due(9, kind + " as " + as, x.as(0, as), under[kind][as] ? 77 : KIND);
      }
    }
    WheelBrook x = new WheelBrook();
    due(9, "as(0, 0)", x.as(0, 0), BEYOND);
    x.wheel(12, 31);
    due(9, "as(0, -1)", x.as(0, -1), BEYOND);
    due(9, "as(0, 7)", x.as(0, 7), BEYOND);
    due(9, "as(-1, 0)", x.as(-1, 0), BEYOND);
    due(9, "as(1, 0)", x.as(1, 0), BEYOND);
    int[] was = {1, 2, 3, 1, 1, 0};
    int[] most = {6, 9, 11, 4, 1, 999999};
    for (int what = 0; what < 6; what++) {
      due(10, "set(0, " + what + ", most)", x.set(0, what, most[what]), was[what]);
      due(10, "set(0, " + what + ", too much)", x.set(0, what, most[what] + 1), BEYOND);
      due(10, "set(0, " + what + ", -1)", x.set(0, what, -1), BEYOND);
      due(10, "set(0, " + what + ", 0)", x.set(0, what, 0), most[what]);
      due(10, "wheelIs(0, " + what + ")", x.wheelIs(0, what), 0);
    }
    due(10, "set(0, 6, 0)", x.set(0, 6, 0), BEYOND);
    due(10, "set(0, -1, 0)", x.set(0, -1, 0), BEYOND);
    due(10, "set(1, 0, 0)", x.set(1, 0, 0), BEYOND);
    due(10, "set(-1, 0, 0)", x.set(-1, 0, 0), BEYOND);
    WheelBrook y = new WheelBrook();
    y.wheel(5, 0);
    y.set(0, 3, 2);
    y.hours(1);
    due(10, "the family that it is for", y.familyIs(2, 1), 10);
    y.set(0, 5, 999995);
    y.hours(1);
    due(10, "counter at its most", y.wheelIs(0, 5), 999999);
    due(10, "turned of its own", y.wheelIs(0, 6), 20);
  }

  private static void flowsAndLost() {
    WheelBrook x = new WheelBrook();
    x.weed(0, 4);
    x.wheel(0, 0);
    x.weed(2, 9);
    x.weed(3, 9);
    x.wheel(3, 20);
    due(11, "flows(0)", x.flows(0), 30);
    due(11, "flows(1)", x.flows(1), 18);
    due(11, "flows(2)", x.flows(2), 18);
    due(11, "flows(3)", x.flows(3), 6);
    due(11, "flows(4)", x.flows(4), 0);
    due(11, "flows(11)", x.flows(11), 0);
    due(11, "flows(-1)", x.flows(-1), BEYOND);
    due(11, "flows(12)", x.flows(12), BEYOND);
    due(39, "lost", x.count(4), 4 + 9 + 6);
    due(39, "gone", x.count(3), 0);
    x.force(0, 99);
    due(39, "lost", x.count(4), 4 + 9 + 9);
    due(39, "gone", x.count(3), 99 - 4 - 31 - 9 - 18 - 9);
    x.weed(11, 5);
    due(39, "gone behind the last weed", x.count(3), 23);
    due(11, "ahead of its weed", x.flows(11), 28);
  }

  private static void tape() {
    WheelBrook x = new WheelBrook();
    due(12, "feed(0, 0)", x.feed(0, 0), BEYOND);
    due(12, "feed(0, 9)", x.feed(0, 9), BEYOND);
    due(12, "feed(0, -1)", x.feed(0, -1), BEYOND);
    due(12, "feed(.., 8)", x.feed(0x3131313131313131L, 8), 8);
    due(12, "count(7)", x.count(7), 8);
    for (int i = 2; i <= 7; i++) {
      due(12, "feed(.., 8)", x.feed(0, 8), 8 * i);
    }
    due(12, "feed(0, 5)", x.feed(0, 5), FULL);
    due(12, "feed(0, 9) when full", x.feed(0, 9), BEYOND);
    due(12, "feed(0, 3)", x.feed(0, 3), 59);
    due(12, "feed(0, 2)", x.feed(0, 2), FULL);
    due(12, "feed(0, 1)", x.feed(0, 1), 60);
    due(12, "feed(0, 1)", x.feed(0, 1), FULL);
    due(12, "count(7)", x.count(7), 60);
    due(13, "text(2)", x.text(2), BEYOND);
    due(13, "text(-1)", x.text(-1), BEYOND);
    due(13, "the tape stays", x.count(7), 60);
    due(13, "text(0)", x.text(0), -14); // 1111 and a fifth digit
    due(13, "the tape is empty", x.count(7), 0);
    x.wheel(65, 0);
    due(12, "the lowest first", x.feed(0x6D2D66L, 3), 3);
    due(13, "text(0)", x.text(0), 1);
    due(13, "the tape is empty", x.count(7), 0);
    due(13, "f-m", x.wheelIs(0, 7), 25);
    due(12, "the lowest alone", x.feed(0x7F7F7F7F7F7F3131L, 2), 2);
    due(13, "text(0)", x.text(0), 1);
    due(13, "11", x.wheelIs(0, 7), 11);
    due(12, "the highest too", x.feed(0x302B302B302B3231L, 8), 8);
    due(13, "text(0)", x.text(0), 1);
    due(13, "12+0+0+0", x.wheelIs(0, 7), 12);
  }

  private static void texts() {
    Object[][] rows = {
      {"7", 7}, {"0007", 7}, {"99", 99}, {"9999", 99}, {"f", 99}, {"p", 7}, {"h", 0}, {"m", 5},
      {"1+2*3", 7}, {"9-3-2", 4}, {"(1+2)*3", 9}, {"9-(3-2)", 8}, {"20/3/2", 3}, {"20/(3/2)", 20},
      {"20%7", 6}, {"20*3%7", 4}, {"20%7*3", 18}, {"7/0+1", 1}, {"7%0+1", 1}, {"(0-7)/2+9", 6},
      {"(0-7)%4+9", 6}, {"7%(0-4)", 3}, {"f/p", 14}, {"m*p-f/3", 2}, {"1-2", 0},
      {"!0", 1}, {"!7", 0}, {"!!7", 1}, {"!0+5", 6}, {"!(0+5)+1", 1}, {"3*!0", 3}, {"!m+p", 7},
      {"!1<2", 1}, {"!(1<2)", 0}, {"!(0)*9", 9}, {"!1=0", 1},
      {"1<2", 1}, {"2<1", 0}, {"2<2", 0}, {"2=2", 1}, {"2=3", 0}, {"3>2", 1}, {"2>3", 0}, {"2>2", 0},
      {"1+1<3", 1}, {"3<1+1", 0}, {"2*3=3+3", 1}, {"1<2=1", -13}, {"(1<2)=1", 1}, {"(3<2)=1", 0},
      {"1&2", 1}, {"1&0", 0}, {"0&1", 0}, {"0|0", 0}, {"0|9", 1}, {"9|0", 1}, {"4|2", 1},
      {"1|0&0", 1}, {"(1|0)&0", 0}, {"0&0|1", 1}, {"1=1&2=2", 1}, {"1=1&2=3", 0}, {"1=2|2=2", 1},
      {"0&1|1&1", 1}, {"(4|2)+1", 2}, {"(0|0)+5", 5}, {"(0&1)+5", 5}, {"(2<1)+5", 5}, {"(2=1)+5", 5},
      {"(1>2)+5", 5}, {"!1+5", 5}, {"(4&2)+1", 2}, {"(1)+(1)+(1)+(1)+(1)+(((((1)))))", 6},
      {"(1)+(1)+(1)+((((((1))))))", -27}, {"!1+!1+!!!!!!1", -21}, {"!1+((((((1", -18},
      {"!1+1+1+1+1+1+1+1+1+1+1+1+1+1+1+1+1+1+1+1+1+1+1+1+1+1+1+1+1+1", 29}, {"1|1=0", 1}, {"(1|1)=0", 0}, {"2+3&0", 0}, {"5-5|0", 0}, {"0-1<0", 1},
      {"f=99&m=5&p=7&h=0", 1}, {"(f=99)*p+!h*m", 12}, {"((((((1))))))", -15},
      {"(((((1)))))", 1}, {"!!!!!1", 0}, {"!!!!!!1", -15}, {"(!(!(1", -16}, {"(!(!(1)))", 1},
      {"(!(!(!1)))", -15}, {"((((!1))))", 0}, {"(1)+(2)+(3)+(4)+(5)+(6)", 21},
      {"!1+!1+!1+!0+!1+!0+!0", 3}, {"!!!!!0+!!!!!0", 2}, {"(!!!!1)+1", 2},
      {"9999*9999*9999<0", 1}, {"9999*9999*99=1308085507", -27},
      {"9999*9999*99=1308*1000*1000+85*1000+507", 1},
      {"(0-2147*1000*1000-483*1000-648)/(0-1)<0", 1},
      {"(0-2147*1000*1000-483*1000-648)%(0-1)+4", 4},
      {"2147*1000*1000+483*1000+648<0", 1},
      {"1+1+1+1+1+1+1+1+1+1+1+1+1+1+1+1+1+1+1+1+1+1+1+1+1+1+1+1+1+1", 30},
    };
    for (Object[] row : rows) {
      due(13, "worth of " + row[0], worth((String) row[0]), (Integer) row[1]);
    }
    WheelBrook x = new WheelBrook();
    x.wheel(63, 40);
    due(13, "h of the day", learn(x, 0, "h"), 1);
    x.hours(23);
    due(13, "h 23", x.wheelIs(0, 7), 23);
    x.hours(1);
    due(13, "h 24", x.wheelIs(0, 7), 0);
    x.hours(2);
    due(13, "a text in place of one ahead", learn(x, 0, "h*10+p"), 1);
    due(13, "h and p", x.wheelIs(0, 7), 24);
    due(13, "a fault", learn(x, 0, "1+"), -12);
    due(13, "the one ahead stays", x.wheelIs(0, 7), 24);
    due(13, "a fault", learn(x, 0, "7+m)"), -13);
    due(13, "the one ahead stays", x.wheelIs(0, 7), 24);
    String[] faulty = {"!", "!!!!!", "(((((", "9*(", "9-", "12+345+", "((1)", "1|(", "12345"};
    for (String fault : faulty) {
      due(13, "a fault", learn(x, 0, fault) < -10 ? 1 : 0, 1);
      due(13, "nothing is left of " + fault, learn(x, 0, "5"), 1);
      due(13, "nothing is left of " + fault, x.wheelIs(0, 7), 5);
      due(13, "a fault", learn(x, 0, fault) < -10 ? 1 : 0, 1);
      due(13, "nothing is left of " + fault, learn(x, 0, "(((((7)))))+2"), 1);
      due(13, "nothing is left of " + fault, x.wheelIs(0, 7), 9);
    }
    x.weed(4, 9);
    due(13, "f behind the weed", learn(x, 0, "f"), 1);
    due(13, "f behind the weed", x.wheelIs(0, 7), 21);
  }

  private static void faults() {
    Object[][] rows = {
      {"", 0, 0}, {"x", 0, 0}, {"t", 0, 0}, {"c", 0, 0}, {"f", 1, 0}, {"p", 1, 0}, {"h", 1, 0},
      {" 1", 0, 0}, {"1 ", 0, 1}, {"1 +2", 0, 1}, {"+1", 0, 0}, {"-1", 0, 0}, {"1+", 0, 2},
      {"1++1", 0, 2}, {"1!", 0, 1}, {"12345", 0, 4}, {"1+12345", 0, 6}, {"f1", 0, 1}, {"1f", 0, 1},
      {"ff", 0, 1}, {"(", 0, 1}, {"()", 0, 1}, {"(1", 0, 2}, {"(1))", 0, 3}, {")", 0, 0},
      {"1)", 0, 1}, {"(1)(", 0, 3}, {"(1)1", 0, 3}, {"1<2<3", 0, 3}, {"1<2>3", 0, 3},
      {"1=2+3=4", 0, 5}, {"1=2*3<4", 0, 5}, {"(1<2<3)", 0, 4}, {"1<2&3<4<5", 0, 7},
      {"1<!2<3", 0, 4}, {"1<", 0, 2}, {"1|", 0, 2}, {"|1", 0, 0}, {"1&&1", 0, 2}, {"1||1", 0, 2},
      {"1==1", 0, 2}, {"1<=1", 0, 2}, {"!", 0, 1}, {"!)", 0, 1}, {"1*!", 0, 3}, {"1~1", 0, 1},
      {"1^1", 0, 1}, {"f\n", 0, 1}, {"\0", 0, 0}, {"F", 0, 0}, {"m", 1, -1}, {"t", 1, -1},
      {"c+t%m", 1, -1}, {"1<(2<3)", 0, -1}, {"1<2|3<4", 0, -1}, {"1<2&3>4", 0, -1},
      {"(1<2)<3", 0, -1}, {"\u00b1", 0, 0}, {"1\u00ab1", 0, 1}, {"\u0166", 0, -1},
    };
    for (Object[] row : rows) {
      WheelBrook x = new WheelBrook();
      int fault = (Integer) row[2];
      due(13, "fault of " + row[0], learn(x, (Integer) row[1], (String) row[0]),
          fault < 0 ? 1 : -10 - fault);
      due(13, "the tape behind " + row[0], x.count(7), 0);
      errors(x, 13, 0, 0, 0, 0, 0, 0);
    }
  }

  private static void untell() {
    WheelBrook x = new WheelBrook();
    x.wheel(64, 0);
    learn(x, 0, "7");
    learn(x, 1, "9");
    due(14, "untell(-1)", x.untell(-1), BEYOND);
    due(14, "untell(2)", x.untell(2), BEYOND);
    due(14, "takes 7", x.wheelIs(0, 7), 7);
    due(14, "untell(0)", x.untell(0), 1);
    due(14, "takes half", x.wheelIs(0, 7), 15);
    due(14, "turns 9", x.wheelIs(0, 8), 9);
    due(14, "untell(0)", x.untell(0), 0);
    due(14, "untell(1)", x.untell(1), 1);
    due(14, "turns as it takes", x.wheelIs(0, 8), 15);
    due(14, "untell(1)", x.untell(1), 0);
    learn(x, 0, "3");
    due(14, "a text again", x.wheelIs(0, 7), 3);
  }

  private static void hours() {
    WheelBrook x = new WheelBrook();
    due(15, "hours(0)", x.hours(0), BEYOND);
    due(15, "hours(-1)", x.hours(-1), BEYOND);
    due(15, "hours(241)", x.hours(241), BEYOND);
    x.wheel(5, 0);
    x.wheel(5, 1);
    due(15, "hours(1)", x.hours(1), 16);
    due(15, "count(1)", x.count(1), 1);
    due(15, "hours(2)", x.hours(2), 48);
    due(15, "prayed of the one", x.familyIs(0, 1), 30);
    due(15, "prayed of the other", x.familyIs(1, 1), 18);
    due(15, "counter", x.wheelIs(1, 5), 18);
    x.force(4, 0);
    due(15, "hours(3), one of no force", x.hours(3), 80);
    for (int hour = 6; hour < 9990; ) {
      int n = Math.min(240, 9990 - hour);
      x.hours(n);
      hour += n;
    }
    due(15, "count(1)", x.count(1), 9990);
    due(15, "hours(10)", x.hours(10), STATE);
    due(15, "hours(241)", x.hours(241), BEYOND);
    due(15, "count(1)", x.count(1), 9990);
    int before = x.count(6);
    due(15, "hours(9)", x.hours(9), before + 9 * 16);
    due(15, "count(1)", x.count(1), 9999);
    due(15, "hours(1)", x.hours(1), STATE);
    due(16, "draws(1)", x.draws(1), STATE);
    due(16, "draws(0)", x.draws(0), BEYOND);
    due(20, "beyond 9999", x.then(240, 0, 6), x.wheelIs(0, 6) + 230 * 10);
    WheelBrook y = new WheelBrook();
    y.wheel(60, 0);
    learn(y, 1, "9999");
    due(15, "held prayers", y.hours(99), 99 * 9999);
    due(15, "held prayers", y.hours(2), 999999);
    due(15, "turned at its most", y.wheelIs(0, 6), 999999);
    due(15, "counter at its most", y.wheelIs(0, 5), 999999);
    y.set(0, 3, 1);
    due(15, "prayers of two", y.hours(1), 999999 + 9999);
  }

  private static void draws() {
    WheelBrook x = new WheelBrook();
    due(16, "draws(0)", x.draws(0), BEYOND);
    due(16, "draws(61)", x.draws(61), BEYOND);
    due(16, "draws(60)", new WheelBrook().draws(60), 4);
    due(17, "seed(0)", x.seed(0), 1);
    // each of these draws once: the rests of 0, 1 .. 15 by hand from z before
    int z = 0;
    int cold = 0;
    int floods = 0;
    x.wheel(7, 0);
    x.wheel(58, 1);
    x.wheel(9, 2);
    x.set(2, 4, 0);
    long turned = 0;
    int[] rests = new int[16];
    for (int i = 0; i < 200; i++) {
      z = z * 1103515245 + 12345;
      int rest = (z >>> 8) % 16;
      rests[rest]++;
      int flood = rest == 0 ? 1 : 0;
      if (rest >= 1 && rest <= 3) {
        cold = Math.min(9, cold + 1);
      }
      if (rest >= 4 && rest <= 6) {
        cold = Math.max(0, cold - 1);
      }
      turned += flood * 7 + (cold <= 7 ? 10 : 0);
      floods += flood;
      due(16, "draws(1)", x.draws(1), flood);
      due(16, "frost", x.count(5), cold);
      due(16, "z", x.count(10), z);
      due(16, "hour", x.count(1), i + 1);
      due(16, "turned of 0", x.wheelIs(0, 6), turned);
      if (i == 100) {
        x.frost(cold = 8);
      }
      if (i % 10 == 0 && i > 150) {
        x.frost(cold = 9);
      }
    }
    for (int rest = 0; rest < 16; rest++) {
      due(16, "rest " + rest + " came", rests[rest] > 0 ? 1 : 0, 1);
    }
    due(16, "a flood turns false ones", x.wheelIs(1, 6), 8 * floods);
    due(16, "a flood turns no shut ones", x.wheelIs(2, 6), 0);
    due(16, "a flood is prayed", x.familyIs(1, 1), 8 * floods);
    due(16, "a flood shows nothing", x.wheelIs(0, 5), turned - 7 * floods);
    due(17, "seed(-1)", x.seed(-1), z);
    due(17, "seed of the least int", x.seed(Integer.MIN_VALUE), -1);
    due(17, "seed(BEYOND)", x.seed(BEYOND), Integer.MIN_VALUE);
    due(17, "seed(1)", x.seed(1), BEYOND);
    errors(x, 17, 2, 0, 0, 0, 0, 0);
    WheelBrook y = new WheelBrook();
    for (int i = 0; i < 41; i++) {
      y.hours(240);
    }
    y.hours(120);
    due(16, "draws(40) at 9960", y.draws(40), STATE);
    due(16, "nothing was drawn", y.count(10), 1);
    due(16, "draws(39) at 9960", y.draws(39) < 0 ? 1 : 0, 0);
    due(16, "the last hour", y.count(1), 9999);
    due(16, "draws(1) at 9999", y.draws(1), STATE);
  }

  private static void sales() {
    WheelBrook x = new WheelBrook();
    x.wheel(5, 0);
    x.hours(10);
    due(18, "sell(0, 1, 30)", x.sell(0, 1, 30), 30);
    due(18, "what is left", x.familyIs(0, 1), 70);
    due(18, "sell(0, 1, 71)", x.sell(0, 1, 71), STATE);
    due(18, "sell(0, 1, 70)", x.sell(0, 1, 70), 100);
    due(18, "sell(0, 1, 1)", x.sell(0, 1, 1), STATE);
    due(18, "sell(1, 4, 1)", x.sell(1, 4, 1), 1);
    due(18, "sell(1, 1, 1)", x.sell(1, 1, 1), BEYOND);
    due(18, "sell(1, 0, 0)", x.sell(1, 0, 0), BEYOND);
    due(18, "sell(1, 0, -1)", x.sell(1, 0, -1), BEYOND);
    due(18, "sell(1, 0, 10000)", x.sell(1, 0, 10000), BEYOND);
    due(18, "sell(1, 0, 9999)", x.sell(1, 0, 9999), STATE);
    due(18, "sell(-1, 0, 1)", x.sell(-1, 0, 1), BEYOND);
    due(18, "sell(5, 0, 1)", x.sell(5, 0, 1), BEYOND);
    due(18, "sell(0, -1, 1)", x.sell(0, -1, 1), BEYOND);
    due(18, "sell(0, 5, 1)", x.sell(0, 5, 1), BEYOND);
    due(18, "prayed of the buyer", x.familyIs(4, 1), 1);
    due(18, "prayed of all", x.count(6), 100);
    x.owe(1, 50); // 99 - 50: 49 more
    x.owe(4, 31); // 30 too few
    due(19, "fair(1, 4)", x.fair(1, 4), 39);
    due(19, "fair(4, 1)", x.fair(4, 1), -39);
    x.owe(4, 30); // 29 too few
    due(19, "fair(1, 4)", x.fair(1, 4), 39);
    x.owe(4, 32);
    due(19, "fair(1, 4)", x.fair(1, 4), 40);
    due(19, "fair(4, 1)", x.fair(4, 1), -40);
    due(19, "fair(2, 3)", x.fair(2, 3), 0);
    due(19, "fair(0, 1)", x.fair(0, 1), -24);
    due(19, "fair(1, 0)", x.fair(1, 0), 24);
    due(18, "sell(4, 0, 1)", x.sell(4, 0, 1), 1);
    due(18, "sell(0, 4, 1)", x.sell(0, 4, 1), 1);
    due(19, "fair(0, 0)", x.fair(0, 0), BEYOND);
    due(19, "fair(-1, 0)", x.fair(-1, 0), BEYOND);
    due(19, "fair(0, -1)", x.fair(0, -1), BEYOND);
    due(19, "fair(5, 0)", x.fair(5, 0), BEYOND);
    due(19, "fair(0, 5)", x.fair(0, 5), BEYOND);
    WheelBrook y = new WheelBrook();
    y.wheel(60, 0);
    y.wheel(60, 1);
    learn(y, 1, "9999");
    y.hours(100);
    y.hours(10);
    due(18, "a buyer at the most", y.sell(0, 1, 9999), 999999);
    due(18, "a seller from the most", y.familyIs(0, 1), 990000);
  }

  private static void ahead() {
    WheelBrook x = new WheelBrook();
    x.wheel(5, 0);
    x.wheel(64, 13);
    learn(x, 0, "h");
    learn(x, 1, "c%7+1");
    x.owe(3, 20);
    for (int n = 0; n <= 240; n += n < 30 ? 1 : 70) {
      WheelBrook y = new WheelBrook();
      y.wheel(5, 0);
      y.wheel(64, 13);
      learn(y, 0, "h");
      learn(y, 1, "c%7+1");
      y.owe(3, 20);
      if (n > 0) {
        y.hours(n);
      }
      for (int what = 0; what < 10; what++) {
        due(20, "then(" + n + ", 1, " + what + ")", x.then(n, 1, what), y.wheelIs(1, what));
      }
      for (int what = 0; what < 4; what++) {
        due(21, "thenFamily(" + n + ", 3, " + what + ")", x.thenFamily(n, 3, what),
            y.familyIs(3, what));
      }
    }
    due(20, "then(24, 0, 5)", x.then(24, 0, 5), 240);
    due(20, "then(-1, 0, 0)", x.then(-1, 0, 0), BEYOND);
    due(20, "then(241, 0, 0)", x.then(241, 0, 0), BEYOND);
    due(20, "then(0, -1, 0)", x.then(0, -1, 0), BEYOND);
    due(20, "then(0, 2, 0)", x.then(0, 2, 0), BEYOND);
    due(20, "then(0, 0, -1)", x.then(0, 0, -1), BEYOND);
    due(20, "then(0, 0, 10)", x.then(0, 0, 10), BEYOND);
    due(21, "thenFamily(-1, 0, 0)", x.thenFamily(-1, 0, 0), BEYOND);
    due(21, "thenFamily(241, 0, 0)", x.thenFamily(241, 0, 0), BEYOND);
    due(21, "thenFamily(0, -1, 0)", x.thenFamily(0, -1, 0), BEYOND);
    due(21, "thenFamily(0, 5, 0)", x.thenFamily(0, 5, 0), BEYOND);
    due(21, "thenFamily(0, 0, -1)", x.thenFamily(0, 0, -1), BEYOND);
    due(21, "thenFamily(0, 0, 4)", x.thenFamily(0, 0, 4), BEYOND);
    due(21, "thenFamily(240, 0, 1)", x.thenFamily(240, 0, 1), 2400);
    due(21, "thenFamily(0, 4, 2)", x.thenFamily(0, 4, 2), 1);
    due(20, "nothing went by", x.count(1), 0);
    due(20, "nothing was prayed", x.count(6), 0);
    due(20, "nothing was counted", x.wheelIs(0, 5), 0);
  }

  private static void when() {
    WheelBrook x = new WheelBrook();
    x.wheel(5, 0);
    x.owe(0, 40);
    due(22, "when(0, 4)", x.when(0, 4), 4);
    due(22, "when(0, 3)", x.when(0, 3), NONE);
    due(22, "when(0, 240)", x.when(0, 240), 4);
    x.owe(0, 41);
    due(22, "when(0, 240)", x.when(0, 240), 5);
    due(22, "when(1, 0)", x.when(1, 0), 0);
    x.owe(1, 1);
    due(22, "when(1, 240)", x.when(1, 240), NONE);
    x.owe(0, 2400);
    due(22, "when(0, 240)", x.when(0, 240), 240);
    due(22, "when(4, 0)", x.when(4, 0), 0);
    due(22, "when(0, 241)", x.when(0, 241), BEYOND);
    due(22, "when(0, -1)", x.when(0, -1), BEYOND);
    due(22, "when(-1, 0)", x.when(-1, 0), BEYOND);
    due(22, "when(5, 0)", x.when(5, 0), BEYOND);
    due(22, "nothing went by", x.count(1), 0);
  }

  private static void sluices() {
    WheelBrook x = new WheelBrook();
    due(23, "sluices(1, 0) without wheels", x.sluices(1, 0), 0);
    due(23, "sluices(1, 1) without wheels", x.sluices(1, 1), 0);
    due(23, "sluices(0, 0)", x.sluices(0, 0), BEYOND);
    due(23, "sluices(7, 0)", x.sluices(7, 0), BEYOND);
    due(23, "sluices(1, -1)", x.sluices(1, -1), BEYOND);
    due(23, "sluices(1, 2)", x.sluices(1, 2), BEYOND);
    x.owe(0, 1);
    due(23, "no wheel pays", x.sluices(6, 0), NONE);
    x.wheel(24, 0); // 4 an hour
    x.wheel(23, 10); // 3 an hour
    x.wheel(23, 10); // 3 an hour
    x.wheel(29, 10); // 9 an hour
    x.owe(0, 0);
    due(23, "no wheel is needed", x.sluices(6, 0), 0);
    due(23, "no wheel is needed", x.sluices(6, 1), 0);
    x.owe(0, 1);
    due(23, "the least as bits", x.sluices(1, 0), 2);
    due(23, "taken", x.sluices(1, 1), 3);
    x.set(1, 4, 0);
    due(23, "also shut ones", x.sluices(1, 0), 2);
    due(23, "it stays shut", x.wheelIs(1, 4), 0);
    due(23, "the others stay open", x.wheelIs(0, 4), 1);
    x.owe(0, 4);
    due(23, "4 by one hour", x.sluices(1, 0), 1);
    due(23, "taken", x.sluices(1, 1), 4);
    due(23, "4 by two hours", x.sluices(2, 0), 2);
    due(23, "taken", x.sluices(2, 1), 6);
    x.owe(0, 7);
    due(23, "7 by one hour", x.sluices(1, 0), 3);
    x.owe(0, 9);
    due(23, "9 by one hour", x.sluices(1, 0), 8);
    due(23, "9 by three hours", x.sluices(3, 0), 2);
    x.owe(0, 19);
    due(23, "19 by one hour", x.sluices(1, 0), 15);
    x.owe(0, 20);
    due(23, "20 by one hour", x.sluices(1, 0), NONE);
    due(23, "20 by one hour", x.sluices(1, 1), NONE);
    x.owe(0, 114);
    due(23, "114 by six hours", x.sluices(6, 0), 15);
    due(23, "taken", x.sluices(6, 1), 114);
    x.owe(0, 115);
    due(23, "115 by six hours", x.sluices(6, 0), NONE);
    x.owe(0, 4);
    x.owe(2, 1);
    due(23, "another family", x.sluices(6, 0), NONE);
    x.set(0, 3, 2);
    due(23, "two families", x.sluices(1, 0), 7);
    due(23, "two families", x.sluices(2, 0), 3);
    due(23, "nothing went by", x.count(1), 0);
  }

  private static void fewerAndBest() {
    WheelBrook x = new WheelBrook();
    x.wheel(5, 50);
    due(24, "a third less above it", x.fewer(5, 0, 1), 10 - 20 / 3);
    due(24, "at its place, behind it", x.fewer(5, 5, 1), 0);
    due(24, "below it", x.fewer(5, 6, 48), 0);
    due(24, "by 48 hours", x.fewer(5, 0, 48), 48 * 4);
    x.frost(4);
    due(24, "one that frost stops", x.fewer(3, 0, 48), 0);
    due(24, "one that it does not", x.fewer(4, 0, 2), 8);
    due(24, "hidden", x.fewer(29, 4, 2), 2 * (10 - 7));
    due(24, "fewer(69, 11, 1)", x.fewer(69, 11, 1), 0);
    due(25, "bestPlace(69, 1)", x.bestPlace(69, 1), 0);
    due(24, "fewer(-1, 0, 1)", x.fewer(-1, 0, 1), BEYOND);
    due(24, "fewer(70, 0, 1)", x.fewer(70, 0, 1), BEYOND);
    due(24, "fewer(0, -1, 1)", x.fewer(0, -1, 1), BEYOND);
    due(24, "fewer(0, 12, 1)", x.fewer(0, 12, 1), BEYOND);
    due(24, "fewer(0, 0, 0)", x.fewer(0, 0, 0), BEYOND);
    due(24, "fewer(0, 0, 49)", x.fewer(0, 0, 49), BEYOND);
    due(24, "nothing was added", x.count(0), 1);
    due(24, "nothing went by", x.count(1), 0);
    due(25, "of several the least", x.bestPlace(5, 48), 0);
    due(25, "one that frost stops", x.bestPlace(2, 48), 0);
    x.wheel(69, 0);
    learn(x, 0, "(p>3)*m");
    due(25, "where the law wants it", x.bestPlace(65, 1), 4);
    learn(x, 0, "(h=1)*p+(h=2)*m");
    due(25, "by one hour", x.bestPlace(67, 1), 0);
    due(25, "by two hours", x.bestPlace(67, 2), 11);
    due(25, "bestPlace(-1, 1)", x.bestPlace(-1, 1), BEYOND);
    due(25, "bestPlace(70, 1)", x.bestPlace(70, 1), BEYOND);
    due(25, "bestPlace(0, 0)", x.bestPlace(0, 0), BEYOND);
    due(25, "bestPlace(0, 49)", x.bestPlace(0, 49), BEYOND);
    due(25, "nothing was added", x.count(0), 2);
    WheelBrook y = new WheelBrook();
    y.wheel(60, 0);
    learn(y, 0, "10-p");
    learn(y, 1, "20-t");
    y.wheel(60, 10);
    due(24, "more turns by the others", y.fewer(29, 0, 1), 0);
    y.force(0, 12);
    due(24, "more turns by the others", y.fewer(29, 0, 1), 18 - 20);
    y.set(0, 2, 2);
    due(24, "more turns by the others", y.fewer(29, 0, 3), 11 + 17 - 17 - 20);
    due(25, "where nothing is left", y.bestPlace(60, 1), 2);
    WheelBrook z = new WheelBrook();
    z.wheel(60, 0);
    learn(z, 0, "11");
    learn(z, 1, "9999*(t>10)");
    z.wheel(60, 110);
    z.hours(150);
    due(24, "turned is at its most", z.wheelIs(1, 6), 999999);
    due(24, "turns beyond turned", z.fewer(29, 0, 2), 2 * 9999);
    for (int i = 2; i < 8; i++) {
      z.wheel(0, 0);
    }
    due(24, "fewer(0, 0, 1)", z.fewer(0, 0, 1), FULL);
    due(24, "fewer(70, 0, 1) when full", z.fewer(70, 0, 1), BEYOND);
    due(25, "bestPlace(0, 1)", z.bestPlace(0, 1), FULL);
    due(25, "bestPlace(0, 49) when full", z.bestPlace(0, 49), BEYOND);
    WheelBrook w = new WheelBrook();
    for (int i = 0; i < 7; i++) {
      w.wheel(5, 0);
    }
    due(24, "an eighth", w.fewer(5, 0, 1), 0);
    due(25, "an eighth", w.bestPlace(5, 1), 0);
  }

  private static void whoAndSlipped() {
    WheelBrook x = new WheelBrook();
    due(26, "who(30, 0)", x.who(30, 0), 1);
    due(26, "who(30, 1)", x.who(30, 1), 0);
    due(26, "who(30, 2)", x.who(30, 2), 0);
    due(26, "who(30, 3)", x.who(30, 3), 0);
    due(26, "who(29, 0)", x.who(29, 0), 0);
    due(26, "who(29, 1)", x.who(29, 1), NONE);
    due(26, "who(29, 2)", x.who(29, 2), NONE);
    due(26, "who(29, 3)", x.who(29, 3), 0);
    x.wheel(23, 0);
    x.wheel(24, 0);
    x.wheel(27, 110);
    x.wheel(27, 110);
    due(26, "who(23, 0)", x.who(23, 0), 3);
    due(26, "who(23, 1)", x.who(23, 1), 3);
    due(26, "who(23, 2)", x.who(23, 2), 0);
    due(26, "who(23, 3)", x.who(23, 3), 15);
    due(26, "who(20, 0)", x.who(20, 0), 2);
    due(26, "who(20, 1)", x.who(20, 1), 5);
    due(26, "who(20, 2)", x.who(20, 2), 1);
    due(26, "who(20, 3)", x.who(20, 3), 13);
    x.set(0, 4, 0);
    due(26, "shut ones too", x.who(27, 1), 1);
    due(26, "it stays shut", x.wheelIs(0, 4), 0);
    due(26, "the others stay open", x.wheelIs(1, 4), 1);
    x.weed(11, 2);
    due(26, "who(28, 0)", x.who(28, 0), 1);
    due(26, "who(9, 2)", x.who(9, 2), NONE);
    due(26, "who(7, 2)", x.who(7, 2), 15);
    due(26, "who(0, 0)", x.who(0, 0), 0);
    due(26, "who(99, 0)", x.who(99, 0), 0);
    due(26, "who(-1, 0)", x.who(-1, 0), BEYOND);
    due(26, "who(100, 0)", x.who(100, 0), BEYOND);
    due(26, "who(0, -1)", x.who(0, -1), BEYOND);
    due(26, "who(0, 4)", x.who(0, 4), BEYOND);
    due(27, "slipped()", x.slipped(), 0);
    x.hours(1);
    due(27, "slipped()", x.slipped(), 2 + 4 + 8);
    x.set(1, 5, 4);
    due(27, "slipped()", x.slipped(), 4 + 8);
    x.set(0, 5, 1);
    due(27, "slipped()", x.slipped(), 1 + 4 + 8);
    for (int i = 4; i < 8; i++) {
      x.wheel(0, 0);
    }
    x.set(7, 5, 1);
    due(27, "slipped()", x.slipped(), 1 + 4 + 8 + 128);
  }

  /** As many wheels as there may be, each of which takes its m. */
  private static void eight() {
    WheelBrook x = new WheelBrook();
    x.force(0, 99);
    x.force(1, 99);
    for (int i = 0; i < 8; i++) {
      x.wheel(21 + i, 10 * i + i % 5);
    }
    due(20, "then(1, 7, 6)", x.then(1, 7, 6), 8);
    due(21, "thenFamily(1, 2, 1)", x.thenFamily(1, 2, 1), 3 + 8);
    due(26, "who(63, 2)", x.who(63, 2), 255);
    due(26, "who(99, 1)", x.who(99, 1), 0);
    due(26, "who(98, 1)", x.who(98, 1), 1);
    due(26, "who(91, 0)", x.who(91, 0), 6); // 8, 7 1, 6 2, 5 3, 5 2 1, 4 3 1
    due(26, "who(91, 1)", x.who(91, 1), 1 + 4 + 8);
    due(26, "who(91, 3)", x.who(91, 3), 255);
    for (int family = 0; family < 5; family++) {
      x.owe(family, 5);
    }
    due(23, "family 3 by one hour", x.sluices(1, 0), NONE);
    x.owe(3, 4);
    due(23, "sluices(1, 0)", x.sluices(1, 0), 8 + 16 + 32 + 64 + 128);
    due(23, "sluices(1, 1)", x.sluices(1, 1), 4 + 5 + 6 + 7 + 8);
    x.owe(0, 2);
    due(23, "sluices(2, 0)", x.sluices(2, 0), 1 + 4 + 8 + 16 + 64);
    due(23, "sluices(2, 1)", x.sluices(2, 1), 2 * (1 + 7 + 3 + 4 + 5));
    due(35, "image()", x.image(), 1);
    due(15, "hours(1)", x.hours(1), 36);
    due(36, "restore()", x.restore(), 0);
    due(36, "count(6)", x.count(6), 0);
    x.seed(0);
    for (int i = 0; i < 4; i++) {
      due(16, "draws(60)", x.draws(60) > 0 ? 1 : 0, 1);
    }
    due(27, "slipped()", x.slipped(), 255);
  }

  private static void spoken(WheelBrook x, int wheel, int voice, int at, int answer, int... trace) {
    String call = "voice(" + wheel + ", " + voice + ", " + at + ")";
    due(28, call, x.voice(wheel, voice, at), answer);
    due(39, "bodies of " + call, x.count(9), trace.length);
    for (int i = 0; i < trace.length; i++) {
      due(29, "body(" + i + ") of " + call, x.body(i), trace[i]);
    }
    due(29, "body behind " + call, x.body(trace.length), NONE);
    due(29, "body(-1)", x.body(-1), NONE);
  }

  private static void voices() {
    WheelBrook x = new WheelBrook();
    due(28, "voice(0, 0, 0)", x.voice(0, 0, 0), BEYOND);
    for (int kind = 0; kind < 7; kind++) {
      x.wheel(10 * kind + 9 - kind, 0); // m 9, 8, 7, 6, 5, 4, 3
    }
    spoken(x, 0, 0, 7, 7, 10);
    spoken(x, 0, 1, 7, 14, 11, 10);
    spoken(x, 0, 2, 7, 5, 12, 11, 10);
    spoken(x, 0, 3, 20, 2, 13);
    spoken(x, 0, 3, -20, -2, 13);
    spoken(x, 1, 0, 7, 4, 20, 10);
    spoken(x, 1, 1, 7, 8, 11, 20, 10);
    spoken(x, 1, 2, 7, 0, 12, 11, 20, 10);
    spoken(x, 1, 3, 20, 2 - 4, 21, 13, 11, 20, 10);
    spoken(x, 2, 0, 7, 9, 10);
    spoken(x, 2, 1, 7, -18, 30, 11, 10);
    spoken(x, 2, 2, 7, -25, 12, 30, 11, 10);
    spoken(x, 2, 3, 20, 4, 13);
    spoken(x, 3, 0, 7, 10, 10);
    spoken(x, 3, 1, 7, 20, 11, 10);
    spoken(x, 3, 2, 7, 6, 40, 12, 11, 10);
    spoken(x, 3, 2, -7, -6, 40, 12, 11, 10);
    spoken(x, 3, 3, 20, 6, 13);
    spoken(x, 4, 0, 7, 21, 50, 20, 10);
    spoken(x, 4, 1, 7, 42, 11, 50, 20, 10);
    spoken(x, 4, 2, 7, 37 ^ 4, 51, 12, 11, 50, 20, 10);
    spoken(x, 4, 3, 20, 20 + 6, 21, 13, 11, 50, 20, 10);
    spoken(x, 5, 0, 7, 12, 10);
    spoken(x, 5, 1, 7, 26, 60, 11, 10);
    spoken(x, 5, 2, 7, 18 - 4, 40, 12, 60, 11, 10);
    spoken(x, 5, 3, 20, -20, 13);
    spoken(x, 6, 0, 7, 2, 70);
    spoken(x, 6, 1, 7, 7, 71, 11, 70);
    spoken(x, 6, 2, 7, 4, 12, 71, 11, 70);
    spoken(x, 6, 3, 20, -6, 13);
    spoken(x, 0, 1, Integer.MIN_VALUE, 0, 11, 10);
    spoken(x, 5, 0, Integer.MAX_VALUE, Integer.MIN_VALUE + 4, 10);
    spoken(x, 5, 3, Integer.MIN_VALUE, Integer.MIN_VALUE, 13);
    x.set(6, 1, 6);
    spoken(x, 6, 3, 20, PARTED, 13);
    x.set(4, 1, 4);
    spoken(x, 4, 3, 20, PARTED, 21, 13);
    spoken(x, 6, 0, 7, 2, 70);
    due(28, "voice(7, 0, 0)", x.voice(7, 0, 0), BEYOND);
    due(28, "voice(-1, 0, 0)", x.voice(-1, 0, 0), BEYOND);
    due(28, "voice(0, -1, 0)", x.voice(0, -1, 0), BEYOND);
    due(28, "voice(0, 4, 0)", x.voice(0, 4, 0), BEYOND);
    due(29, "the trace stays", x.body(0), 70);
    due(28, "an answer that is no error", x.voice(0, 0, BEYOND), BEYOND);
    due(40, "told(6)", x.told(6), 2);
    due(40, "told(1)", x.told(1), 5);
  }

  private static void sheets() {
    WheelBrook x = new WheelBrook();
    due(30, "sheet(-1, 8, 1)", x.sheet(-1, 8, 1), BEYOND);
    due(30, "sheet(4, 8, 1)", x.sheet(4, 8, 1), BEYOND);
    due(30, "sheet(0, 7, 1)", x.sheet(0, 7, 1), BEYOND);
    due(30, "sheet(0, -8, 1)", x.sheet(0, -8, 1), BEYOND);
    due(30, "sheet(0, 64, -1)", x.sheet(0, 64, -1), BEYOND);
    due(30, "sheet(0, 8, -1)", x.sheet(0, 8, -1), STATE);
    due(30, "sheet(0, 8, 25)", x.sheet(0, 8, 25), BEYOND);
    due(30, "still missing", x.put(0, 0, 0), NONE);
    due(30, "sheet(0, 8, 24)", x.sheet(0, 8, 24), 1);
    due(31, "put(0, 23, 5)", x.put(0, 23, 5), 1);
    due(31, "put(0, 24, 5)", x.put(0, 24, 5), BEYOND);
    due(31, "put(0, -1, 5)", x.put(0, -1, 5), BEYOND);
    due(31, "put(-1, 0, 5)", x.put(-1, 0, 5), BEYOND);
    due(31, "put(4, 0, 5)", x.put(4, 0, 5), BEYOND);
    due(31, "put(1, 99, 5)", x.put(1, 99, 5), NONE);
    due(30, "sheet(1, 16, 0)", x.sheet(1, 16, 0), 1);
    due(31, "put(1, 0, 5)", x.put(1, 0, 5), BEYOND);
    due(30, "a row of none", x.forces(1), 0);
    due(30, "sheet(2, 32, 3)", x.sheet(2, 32, 3), 1);
    due(30, "sheet(0, 8, -1)", x.sheet(0, 8, -1), STATE);
    due(30, "sheet(0, 8, 99)", x.sheet(0, 8, 99), BEYOND);
    due(30, "it still stands", x.put(0, 23, 6), 1);
    due(30, "sheet(0, 0, -1)", x.sheet(0, 0, -1), 1);
    due(30, "missing again", x.put(0, 0, 0), NONE);
    due(30, "sheet(2, 0, 99)", x.sheet(2, 0, 99), 1);
    due(30, "missing again", x.judge(2), NONE);
    x.sheet(0, 8, 3);
    x.put(0, 0, 256 + 7);
    x.put(0, 1, 0x12345609);
    x.put(0, 2, -1);
    due(31, "forces of the lowest 8 bits", x.forces(0), 2);
    due(31, "the first", x.force(0, 0), 7);
    due(31, "the second", x.force(1, 0), 9);
    x.sheet(0, 8, 2);
    due(30, "all 0 again", x.forces(0), 2);
    due(30, "all 0 again", x.force(0, 0), 0);
    x.sheet(0, 16, 3);
    x.put(0, 0, 65536 + 8);
    x.put(0, 1, -65536 + 3);
    x.put(0, 2, 256 + 8);
    due(31, "forces of the lowest 16 bits", x.forces(0), 2);
    due(31, "the first", x.force(0, 0), 8);
    due(31, "the second", x.force(1, 0), 3);
    x.sheet(0, 32, 2);
    x.put(0, 0, 12);
    x.put(0, 1, 65536 + 1);
    due(31, "forces of all 32 bits", x.forces(0), 1);
    due(31, "the first", x.force(0, 0), 12);
    x.sheet(0, 8, 1);
    x.put(0, 0, 128);
    due(31, "128 in 8 bits", x.forces(0), 0);
    x.put(0, 0, -128 - 256 + 135);
    due(31, "7 in 8 bits", x.forces(0), 1);
  }

  /** The forces of the first hours, when a sheet has been put there. */
  private static void row(WheelBrook x, int promise, int sheet, int... want) {
    due(promise, "forces(" + sheet + ")", x.forces(sheet), want.length);
    for (int i = 0; i < want.length; i++) {
      due(promise, "force(" + i + ")", x.force(i, 0), want[i]);
    }
  }

  private static void moves() {
    WheelBrook x = new WheelBrook();
    x.sheet(0, 8, 5);
    x.sheet(1, 8, 3);
    x.sheet(2, 16, 3);
    for (int i = 0; i < 5; i++) {
      x.put(0, i, i + 1);
    }
    due(32, "move(0, 0, 0, 1, 4)", x.move(0, 0, 0, 1, 4), 4);
    row(x, 32, 0, 1, 1, 2, 3, 4);
    due(32, "move(0, 2, 0, 1, 3)", x.move(0, 2, 0, 1, 3), 3);
    row(x, 32, 0, 1, 2, 3, 4, 4);
    due(32, "move(0, 1, 1, 0, 3)", x.move(0, 1, 1, 0, 3), 3);
    row(x, 32, 1, 2, 3, 4);
    due(32, "move(0, 4, 1, 2, 1)", x.move(0, 4, 1, 2, 1), 1);
    due(32, "move(0, 0, 1, 1, 1)", x.move(0, 0, 1, 1, 1), 1);
    row(x, 32, 1, 2, 1, 4);
    due(32, "move(0, 5, 1, 3, 0)", x.move(0, 5, 1, 3, 0), 0);
    due(32, "move(0, 6, 1, 3, 0)", x.move(0, 6, 1, 3, 0), BEYOND);
    due(32, "move(0, 5, 1, 4, 0)", x.move(0, 5, 1, 4, 0), BEYOND);
    due(32, "move(0, 0, 1, 0, 4)", x.move(0, 0, 1, 0, 4), BEYOND);
    due(32, "move(1, 0, 0, 0, 4)", x.move(1, 0, 0, 0, 4), BEYOND);
    due(32, "move(0, 3, 1, 0, 3)", x.move(0, 3, 1, 0, 3), BEYOND);
    due(32, "move(0, 0, 1, 1, 3)", x.move(0, 0, 1, 1, 3), BEYOND);
    due(32, "move(0, -1, 1, 0, 1)", x.move(0, -1, 1, 0, 1), BEYOND);
    due(32, "move(0, 0, 1, -1, 1)", x.move(0, 0, 1, -1, 1), BEYOND);
    due(32, "move(0, 0, 1, 0, -1)", x.move(0, 0, 1, 0, -1), BEYOND);
    int most = Integer.MAX_VALUE;
    due(32, "move(0, most, 1, 0, most)", x.move(0, most, 1, 0, most), BEYOND);
    due(32, "move(0, 1, 1, 0, most)", x.move(0, 1, 1, 0, most), BEYOND);
    due(32, "move(0, most, 1, 0, 1)", x.move(0, most, 1, 0, 1), BEYOND);
    due(32, "move(0, 0, 1, most, 1)", x.move(0, 0, 1, most, 1), BEYOND);
    due(32, "move(0, 0, 2, 0, 99)", x.move(0, 0, 2, 0, 99), KIND);
    due(32, "move(0, 0, 3, 0, 99)", x.move(0, 0, 3, 0, 99), NONE);
    due(32, "move(3, 0, 0, 0, 1)", x.move(3, 0, 0, 0, 1), NONE);
    due(32, "move(3, 0, 4, 0, 1)", x.move(3, 0, 4, 0, 1), BEYOND);
    due(32, "move(-1, 0, 3, 0, 1)", x.move(-1, 0, 3, 0, 1), BEYOND);
    due(32, "move(4, 0, 0, 0, 1)", x.move(4, 0, 0, 0, 1), BEYOND);
    due(32, "move(0, 0, -1, 0, 1)", x.move(0, 0, -1, 0, 1), BEYOND);
    row(x, 32, 0, 1, 2, 3, 4, 4);
    row(x, 32, 1, 2, 1, 4);
  }

  private static void forcesAndJudge() {
    WheelBrook x = new WheelBrook();
    x.sheet(0, 8, 24);
    for (int i = 0; i < 24; i++) {
      x.put(0, i, i + 1);
    }
    due(33, "forces(0)", x.forces(0), 24);
    due(33, "force(23, 0)", x.force(23, 0), 24);
    due(33, "force(0, 0)", x.force(0, 0), 1);
    x.put(0, 3, 100);
    x.put(0, 2, 99);
    due(33, "forces(0)", x.forces(0), 3);
    due(33, "force(2, 0)", x.force(2, 0), 99);
    due(33, "force(3, 0)", x.force(3, 0), 4);
    x.put(0, 0, -1);
    due(33, "forces(0)", x.forces(0), 0);
    due(33, "force(2, 0)", x.force(2, 0), 0);
    due(33, "forces(-1)", x.forces(-1), BEYOND);
    due(33, "forces(4)", x.forces(4), BEYOND);
    due(33, "forces(1)", x.forces(1), NONE);
    errors(x, 33, 2, 1, 0, 0, 0, 0);
    WheelBrook y = new WheelBrook();
    y.wheel(5, 10);
    y.weed(1, 3);
    y.sheet(0, 32, 14);
    int[] flow = {30, 30, 18, 18, 18, 18, 18, 18, 18, 18, 18, 18};
    for (int i = 0; i < 12; i++) {
      due(34, "judge(0)", y.judge(0), i);
      y.put(0, i, flow[i]);
    }
    due(34, "one beyond place 11", y.judge(0), 12);
    y.sheet(1, 32, 12);
    y.move(0, 0, 1, 0, 12);
    due(34, "as many as there are", y.judge(1), 12);
    y.sheet(1, 8, 2);
    y.put(1, 0, 30);
    y.put(1, 1, 30);
    due(34, "fewer numbers", y.judge(1), 2);
    y.force(0, 31);
    due(34, "not so any more", y.judge(1), 0);
    y.sheet(1, 8, 0);
    due(34, "no numbers", y.judge(1), 0);
    y.sheet(1, 8, 5);
    y.force(0, 0);
    due(34, "nothing flows", y.judge(1), 5);
    due(34, "judge(-1)", y.judge(-1), BEYOND);
    due(34, "judge(4)", y.judge(4), BEYOND);
    due(34, "judge(3)", y.judge(3), NONE);
  }

  private static void images() {
    WheelBrook x = new WheelBrook();
    due(36, "restore()", x.restore(), NONE);
    x.force(3, 44);
    x.weed(2, 5);
    x.frost(2);
    x.owe(1, 9);
    x.wheel(25, 1);
    x.wheel(66, 2);
    learn(x, 0, "5");
    learn(x, 1, "t+1");
    feed(x, "f+");
    x.tell(6);
    x.tell(7);
    x.seed(99);
    x.hours(3);
    x.sell(1, 3, 4);
    x.sheet(0, 8, 2);
    x.voice(0, 0, 1);
    due(35, "image()", x.image(), 1);
    int[] counts = new int[23];
    for (int i = 0; i < 23; i++) {
      counts[i] = x.count(i);
    }
    x.force(3, 1);
    x.weed(2, 0);
    x.weed(7, 1);
    x.frost(3);
    x.owe(1, 0);
    x.wheel(5, 0);
    x.set(0, 0, 0);
    x.set(0, 1, 1);
    x.set(0, 2, 1);
    x.set(0, 3, 4);
    x.set(0, 4, 0);
    x.set(0, 5, 1);
    learn(x, 0, "6+1");
    x.untell(1);
    feed(x, "xyz");
    x.text(0);
    x.check(0);
    x.tell(1);
    x.tell(2);
    x.tell(3);
    x.seed(4);
    x.draws(20);
    x.sheet(0, 0, 0);
    x.sheet(1, 16, 1);
    x.voice(1, 2, 1);
    x.told(0);
    for (int again = 0; again < 2; again++) {
      due(36, "restore()", x.restore(), 3);
      for (int i = 0; i < 23; i++) {
        due(36, "count(" + i + ")", x.count(i), i == 9 ? 4 : counts[i]);
      }
      int[] of0 = {2, 5, 0, 1, 1, 6, 15, 5, 5, 2};
      int[] of1 = {6, 6, 0, 2, 1, 18, 18, 5, 6, 6};
      for (int i = 0; i < 10; i++) {
        due(36, "wheelIs(0, " + i + ")", x.wheelIs(0, i), of0[i]);
        due(36, "wheelIs(1, " + i + ")", x.wheelIs(1, i), of1[i]);
      }
      due(36, "owed", x.familyIs(1, 0), 9);
      due(36, "prayed", x.familyIs(1, 1), 11);
      due(36, "prayed", x.familyIs(3, 1), 4);
      due(36, "no third wheel", x.wheelIs(2, 0), BEYOND);
      due(36, "sheets are as they were", x.judge(0), NONE);
      due(36, "sheets are as they were", x.judge(1), 0);
      due(36, "the trace is as it was", x.body(0), 12);
      feed(x, "0");
      due(36, "the tape", x.text(0), 1);
      due(36, "the tape's text", x.wheelIs(1, 7), 39);
      due(36, "force(3, 44)", x.force(3, 30), 44);
      x.set(0, 5, 0);
      x.force(3, 30);
      x.hours(5);
    }
    due(40, "told(1)", x.told(1), 3);
    due(40, "told(2)", x.told(2), 3);
    x.restore();
    due(36, "numbers that wait", x.tell(8), 3);
    x.set(0, 5, 0);
    x.set(0, 1, 9);
    x.set(0, 0, 0);
    x.force(3, 18);
    x.force(4, 3);
    x.force(5, 3);
    due(36, "numbers that wait", x.check(0), 0);
    due(35, "image()", x.image(), 2);
    x.hours(1);
    due(36, "restore()", x.restore(), 3);
    x.hours(1);
    due(35, "image()", x.image(), 3);
    due(36, "restore()", x.restore(), 4);
    due(35, "in place of one ahead", x.count(8), 0);
    WheelBrook y = new WheelBrook();
    y.image();
    y.wheel(5, 0);
    y.hours(2);
    due(36, "an image of the first", y.restore(), 0);
    due(36, "no wheels", y.count(0), 0);
    due(7, "a wheel again", y.wheel(5, 0), 0);
    due(7, "its counter", y.wheelIs(0, 5), 0);
    due(7, "how often it turned", y.wheelIs(0, 6), 0);
  }

  private static void tellAndCheck() {
    WheelBrook x = new WheelBrook();
    x.wheel(5, 0);
    x.wheel(29, 0);
    for (int i = 1; i <= 24; i++) {
      due(37, "tell", x.tell(10 * i), i);
    }
    due(37, "tell", x.tell(0), FULL);
    due(39, "count(8)", x.count(8), 24);
    due(38, "check(0)", x.check(0), 0);
    due(38, "none wait", x.count(8), 0);
    for (int i = 1; i <= 24; i++) {
      x.tell(i == 24 ? 0 : 4 * i);
    }
    due(38, "check(1)", x.check(1), 24);
    x.tell(10);
    x.tell(21);
    x.tell(0);
    due(38, "check(0)", x.check(0), 2);
    due(38, "none wait", x.count(8), 0);
    due(38, "check of none", x.check(0), 0);
    x.tell(0);
    due(38, "check(0)", x.check(0), 1);
    x.tell(10);
    due(38, "check(2)", x.check(2), BEYOND);
    due(38, "none wait", x.count(8), 0);
    x.tell(10);
    due(38, "check(-1)", x.check(-1), BEYOND);
    due(38, "none wait", x.count(8), 0);
    due(37, "tell(-5)", x.tell(-5), 1);
    due(37, "tell of the least", x.tell(Integer.MIN_VALUE), 2);
    due(38, "nothing went by", x.count(1), 0);
    due(38, "check(0)", x.check(0), 1);
  }

  private static void counts() {
    WheelBrook x = new WheelBrook();
    due(39, "count(-1)", x.count(-1), BEYOND);
    due(39, "count(23)", x.count(23), BEYOND);
    for (int place = 0; place < 12; place++) {
      x.weed(place, place % 3);
    }
    for (int place = 0; place < 12; place++) {
      due(39, "count(" + (11 + place) + ")", x.count(11 + place), place % 3);
    }
    due(39, "lost", x.count(4), 12);
    due(39, "gone", x.count(3), 18);
    x.wheel(5, 110);
    due(39, "wheels", x.count(0), 1);
    due(39, "gone", x.count(3), 12);
    x.hours(2);
    due(39, "hour", x.count(1), 2);
    due(39, "prayed", x.count(6), 12);
    x.seed(-7);
    due(39, "z", x.count(10), -7);
    x.seed(BEYOND);
    due(39, "z, which is no error", x.count(10), BEYOND);
    x.frost(8);
    due(39, "frost", x.count(5), 8);
    x.force(2, 50);
    due(39, "force now", x.count(2), 50);
    due(39, "tape", x.feed(0, 8), x.count(7));
    due(39, "waits", x.tell(1), x.count(8));
    x.voice(0, 2, 0);
    due(39, "bodies", x.count(9), 3);
    errors(x, 39, 2, 0, 0, 0, 0, 0);
  }

  private static void told() {
    WheelBrook x = new WheelBrook();
    errors(x, 40, 0, 0, 0, 0, 0, 0);
    due(40, "told(0)", x.told(0), BEYOND);
    due(40, "told(7)", x.told(7), BEYOND);
    due(40, "told(-1)", x.told(-1), BEYOND);
    due(40, "told(1)", x.told(1), 3);
    x.restore();
    x.body(0);
    x.sell(0, 1, 1);
    x.wheel(11, 0);
    x.as(0, 3);
    x.voice(0, 3, 1);
    x.set(0, 1, 0);
    x.voice(0, 3, 1);
    for (int i = 0; i < 9; i++) {
      x.wheel(0, 0);
    }
    errors(x, 40, 3, 2, 1, 2, 1, 1);
  }
}
