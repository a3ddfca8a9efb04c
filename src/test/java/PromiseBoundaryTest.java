import java.util.ArrayList;
import java.util.List;

/** Each sentence of the promises that names a boundary case, with a test of its own. */
public final class PromiseBoundaryTest extends Checks {
  private static final int MIN = Integer.MIN_VALUE;
  private static final int MAX = Integer.MAX_VALUE;
  private static final String WORLD = "world 1 1 1;";
  private static final String KIND = "kind life 1;";

  private static Sentences doc;

  public static void main(String[] args) throws Exception {
    doc = new Sentences();
    List<String> all = new ArrayList<>();
    for (int n = 1; n <= 55; n++) {
      doc.section("" + n);
      all.add("" + n);
      PromiseBoundaryTest.class.getDeclaredMethod("promise" + n).invoke(null);
    }
    doc.nothingLeft(all);
    finish();
  }

  /** A call, asked for with each of its numbers beyond its bounds, and without a scene. */
  private static void refusals(String name) {
    Refusals.test(name);
    Refusals.testWithout(name, new NumberedSparks());
  }

  private static NumberedSparks tape(int bytes) {
    NumberedSparks x = new NumberedSparks();
    for (int i = 0; i < bytes; i += 20) x.feed(0x20202020, 0x20202020, 0x20202020, 0x20202020, 0x20202020);
    x.end(bytes);
    return x;
  }

  private static final int[] PATHS = {0, 16, 17, 18, 32, 33, 34};

  /** Roots with all children and grandchildren that there can be, which fly and end at the edge or come back from it. */
  private static String flying(String edge, int seed) {
    String kind = "kind life 2 vary 4 speed 6 falls 1 " + edge;
    return "world 3 4 5;seed " + seed + ";" + kind + ";" + kind + " childs 2 of 0;" + kind + " childs 2 of 1;source 2 at 1 1 3 from 40 every 2 burst 2 until 44 jitter 3;";
  }

  // ---- the text ----

  static void promise1() {
    doc.says("No SCENE.");
    NumberedSparks x = new NumberedSparks();
    for (int what = 0; what < 8; what++) due("count(" + what + ")", x.count(what), 0);
    due("fault(0)", x.fault(0), 0);
    due("fault(1)", x.fault(1), -1);
    due("octet(0)", x.octet(0), -1);
    due("undo()", x.undo(), -2);
    due("mixed(1, 1)", x.mixed(1, 1), 0);
    for (String shape : Refusals.CALLS) Refusals.testWithout(shape.substring(0, shape.indexOf(' ')), new NumberedSparks());
    // Another object's scene is not its own.
    told(STILL);
    due("is(0)", new NumberedSparks().is(0), -2);
  }

  static void promise2() {
    doc.says("Twenty bytes come behind the TAPE, four of each number, the highest first: how many it has");
    NumberedSparks x = new NumberedSparks();
    for (int i = 1; i <= 25; i++) due("feed", x.feed(0, 0, 0, 0, 0), 20 * i);
    // The byte at each of the twenty places, told by the place of a fault there.
    for (int at = 0; at < 20; at++) {
      int[] five = {0x20202020, 0x20202020, 0x20202020, 0x20202020, 0x20202020};
      five[at / 4] ^= (0x20 ^ 0xff) << 8 * (3 - at % 4);
      NumberedSparks y = tape(7);
      due("feed", y.feed(five[0], five[1], five[2], five[3], five[4]), 27);
      due("scene()", y.scene(), -4);
      due("fault(1)", y.fault(1), 7 + at);
    }
    doc.says("NONE, and none come, if it would have more than 500.");
    for (int has : new int[] {481, 490, 499, 500}) {
      NumberedSparks y = tape(has);
      due("feed of " + has + " and 20", y.feed(-1, -1, -1, -1, -1), -1);
      due("count(6)", y.count(6), has);
      due("end(" + (has + 1) + ")", y.end(has + 1), -1);
      y.scene();
      due("fault(1)", y.fault(1), has);
    }
    due("feed of 480 and 20", tape(480).feed(0, 0, 0, 0, 0), 500);
    // A refused one left the bytes as they were: a text of 500 bytes stands.
    NumberedSparks full = new NumberedSparks();
    String text = WORLD + "seed 7;" + " ".repeat(469) + "kind life 9;";
    feedText(full, text);
    due("count(6)", full.count(6), 500);
    due("feed", full.feed(-1, -1, -1, -1, -1), -1);
    due("scene()", full.scene(), 3);
    due("feed behind it", full.feed(0, 0, 0, 0, 0), 20);
  }

  static void promise3() {
    doc.says("The TAPE has its first n bytes alone: n");
    NumberedSparks x = new NumberedSparks();
    feedText(x, "world 1 2 3;seed 5;");
    due("end(19)", x.end(19), 19);
    due("end(12)", x.end(12), 12);
    due("count(6)", x.count(6), 12);
    due("scene()", x.scene(), 1);
    due("count(5)", x.count(5), 0);
    feedText(x, "world 1 2 3;");
    due("end(0)", x.end(0), 0);
    feedText(x, "world 4 5 6;");
    due("scene()", x.scene(), 1);
    due("count(2)", x.count(2), 6);
    due("end(0) of nothing", x.end(0), 0);
    due("end(500)", tape(500).end(500), 500);
    doc.says("NONE, and nothing happens, if it has not so many, or n is below 0.");
    NumberedSparks y = new NumberedSparks();
    for (int n : new int[] {1, 500, 501, MAX, -1, MIN}) due("end(" + n + ") of nothing", y.end(n), -1);
    feedText(y, "world 1 2 3;");
    for (int n : new int[] {13, 20, 500, 501, MAX, -1, MIN}) {
      due("end(" + n + ")", y.end(n), -1);
      due("count(6)", y.count(6), 12);
    }
    due("scene()", y.scene(), 1);
    for (int n : new int[] {1, 12, 20}) due("end(" + n + ") behind scene()", y.end(n), -1);
  }

  static void promise4() {
    doc.says("The TAPE (empty then) tells the SCENE (in place of another): how many LINES.");
    NumberedSparks x = told(WORLD);
    due("count(6)", x.count(6), 0);
    String lines = WORLD + KIND.repeat(5) + "source 0 at 0 0 0 from 0 every 1;".repeat(4) + "seed 9;";
    due("scene() with all lines that there can be", told(lines).count(5), 9);
    // Nothing of another scene, or of a text with a fault, is left.
    String rich = "world 9 9 9;seed 5;kind life 4 vary 3 speed 2 falls 1 size 7 ends;kind life 4 bounce childs 2 of 0;source 1 at 8 8 8 from 3 every 4 burst 5 until 99 jitter 6;";
    String plain = "world 8 8 8;kind life 1;kind life 2;source 0 at 1 1 1 from 0 every 1;";
    for (String behind : new String[] {"", "x"}) {
      NumberedSparks y = new NumberedSparks();
      feedText(y, rich + behind);
      due("scene()", y.scene(), behind.isEmpty() ? 5 : -4);
      y.sets(0, 0, 33);
      y.seed(44);
      y.many(3, -1);
      feedText(y, plain);
      due("scene()", y.scene(), 4);
      due("all as of a new object", Refusals.stateOf(y).equals(Refusals.stateOf(told(plain))) ? 1 : 0, 1);
      due("many(3, -1)", y.many(3, -1), 1);
      due("undo()", y.undo(), -1);
      feedText(y, "world 1 1 1;seed 6;");
      due("scene() with a seed again", y.scene(), 2);
      due("count(5)", y.count(5), 6);
      due("count(3)", y.count(3), 0);
      due("kind(0, 0)", y.kind(0, 0), -99);
      due("source(0, 0)", y.source(0, 0), -2);
      due("is(0)", y.is(0), 0);
    }
    // The frame of the tick that was asked for last is not kept.
    NumberedSparks z = told(STILL);
    due("many(7, -1)", z.many(7, -1), 4);
    feedText(z, STILL.replace("burst 2", "burst 3"));
    z.scene();
    due("many(7, -1)", z.many(7, -1), 6);
    // Nor are sources that the new one has not.
    NumberedSparks four = told(WORLD + "kind life 9;" + "source 0 at 0 0 0 from 0 every 1 until 9;".repeat(4));
    due("many(5, -1)", four.many(5, -1), 24);
    feedText(four, WORLD + "kind life 9;source 0 at 0 0 0 from 0 every 1 until 9;");
    due("scene()", four.scene(), 3);
    due("many(5, -1)", four.many(5, -1), 6);
    due("endings(0, 100)", four.endings(0, 100), 10);
    feedText(four, WORLD);
    due("scene()", four.scene(), 1);
    due("many(5, -1)", four.many(5, -1), 0);
    due("peak(0, 60, 1)", four.peak(0, 60, 1), 0);
    doc.says("-4: a FAULT (the TAPE is empty, all else stays).");
    NumberedSparks y = told(Refusals.TEXT);
    y.seed(8);
    y.sets(1, 3, 5);
    y.picture(7);
    String kept = Refusals.stateOf(y);
    for (String text : List.of("", "world 1 1 1;seed 5;kind life 0;", "world 2 2 2;x", "world 1 1 1;seed 1;seed 1;")) {
      feedText(y, text);
      due("scene()", y.scene(), -4);
      due("count(6)", y.count(6), 0);
    }
    due("all stays", Refusals.stateOf(y).equals(kept) ? 1 : 0, 1);
    due("undo()", y.undo(), 1);
    due("undo()", y.undo(), 0);
    due("count(5)", y.count(5), 0);
    due("kind(1, 3)", y.kind(1, 3), 0);
    due("feed behind it", y.feed(0, 0, 0, 0, 0), 20);
  }

  static void promise5() {
    doc.says("Of the latest scene(), what 0: its FAULT, 0 without, 1: its place (NONE without).");
    NumberedSparks x = new NumberedSparks();
    String[] texts = {"x", "world 41 1 1;", "world 1 1 1;", "world 1 1 1;seed 1;seed 1;", "world 1 1 1;seed 1;", "", "world 1 1 1;"};
    int[][] want = {{1, 0}, {2, 6}, {0, -1}, {3, 19}, {0, -1}, {1, 0}, {0, -1}};
    for (int i = 0; i < texts.length; i++) {
      feedText(x, texts[i]);
      due("fault(0) ahead of scene()", x.fault(0), i == 0 ? 0 : want[i - 1][0]);
      due("fault(1) ahead of scene()", x.fault(1), i == 0 ? -1 : want[i - 1][1]);
      x.scene();
      due("fault(0) of " + texts[i], x.fault(0), want[i][0]);
      due("fault(1) of " + texts[i], x.fault(1), want[i][1]);
    }
    doc.says("NONE for another what, and ahead of any (what 1).");
    due("fault(1) ahead of any", new NumberedSparks().fault(1), -1);
    due("fault(0) ahead of any", new NumberedSparks().fault(0), 0);
    for (NumberedSparks y : new NumberedSparks[] {new NumberedSparks(), x, told(STILL)})
      for (int what : new int[] {-1, 2, 3, MIN, MAX}) due("fault(" + what + ")", y.fault(what), -1);
    NumberedSparks bad = new NumberedSparks();
    bad.scene();
    for (int what : new int[] {-1, 2, 3, MIN, MAX}) due("fault(" + what + ")", bad.fault(what), -1);
  }

  static void promise6() {
    doc.says("5 seed (all 0 without a SCENE)");
    NumberedSparks bad = new NumberedSparks();
    for (int what = 0; what < 6; what++) due("count(" + what + ") without", bad.count(what), 0);
    feedText(bad, "world 3 4 5;seed 6;kind life 1;source 0 at 0 0 0 from 0 every 1;x");
    due("scene()", bad.scene(), -4);
    for (int what = 0; what < 6; what++) due("count(" + what + ") without", bad.count(what), 0);
    int[] want = {4, 3, 2, 2, 2, 0};
    NumberedSparks x = told(Refusals.TEXT);
    for (int what = 0; what < 6; what++) due("count(" + what + ")", x.count(what), want[what]);
    x.seed(999999);
    due("count(5)", x.count(5), 999999);
    doc.says("6 bytes of the TAPE, 7 of OUT.");
    // Both without a scene, too.
    due("count(6)", tape(33).count(6), 33);
    due("count(7)", tape(33).count(7), 0);
    x.picture(0);
    due("count(7)", x.count(7), 15);
    doc.says("NONE for others.");
    for (NumberedSparks y : new NumberedSparks[] {new NumberedSparks(), x})
      for (int what : new int[] {-1, 8, 9, MIN, MAX}) due("count(" + what + ")", y.count(what), -1);
  }

  static void promise7() {
    doc.says("6: childs (0 without), 7: their KIND (NONE).");
    NumberedSparks x = told(WORLD + KIND + "kind life 1 childs 1 of 0;kind life 1 childs 2 of 1;");
    int[][] want = {{0, -1}, {1, 0}, {2, 1}};
    for (int k = 0; k < 3; k++)
      for (int what = 6; what < 8; what++) due("kind(" + k + ", " + what + ")", x.kind(k, what), want[k][what - 6]);
    doc.says("-99: no such one, no such what, no SCENE.");
    refusals("kind");
    for (int k : new int[] {-1, 3, 4, 5, MIN, MAX}) due("kind(" + k + ", 7)", x.kind(k, 7), -99);
    for (int what : new int[] {-1, 8, MIN, MAX}) due("kind(2, " + what + ")", x.kind(2, what), -99);
  }

  static void promise8() {
    doc.says("9: how many ROOTS it has. -2.");
    int[][] table = {{9999, 9998, 5, 0}, {9999, 9999, 5, 5}, {0, 9999, 5, 50000}, {0, 0, 1, 1}};
    for (int[] w : table)
      due("source(0, 9)", told(WORLD + KIND + "source 0 at 0 0 0 from " + w[0] + " every 1 burst " + w[2] + " until " + w[1] + ";").source(0, 9), w[3]);
    refusals("source");
  }

  static void promise9() {
    doc.says("The seed becomes n (0 .. 999999): what it was. -2.");
    NumberedSparks x = told(WORLD + "seed 7;" + KIND + "source 0 at 0 0 0 from 0 every 1;");
    int[] seeds = {0, 999999, 999999, 1, 0};
    int was = 7;
    for (int n : seeds) {
      due("seed(" + n + ")", x.seed(n), was);
      due("count(5)", x.count(5), n);
      due("mixed(3, 4)", x.mixed(3, 4), mixed(n, 3, 4));
      due("spark(0, 4)", x.spark(0, 4), draw(n, 0, 5, 8));
      was = n;
    }
    for (int n : new int[] {-1, 1000000, MIN, MAX}) {
      due("seed(" + n + ")", x.seed(n), -2);
      due("count(5)", x.count(5), 0);
    }
    refusals("seed");
    // What was drawn by the old seed is not kept.
    NumberedSparks y = told("world 9 9 9;kind life 9 speed 9;source 0 at 4 4 4 from 0 every 1 burst 5 until 0;");
    long first = y.digest(3);
    y.seed(1);
    long second = y.digest(3);
    due("another frame", first != second ? 1 : 0, 1);
    y.seed(0);
    due("digest(3)", y.digest(3), first);
  }

  // ---- a spark by its number ----

  static void promise10() {
    doc.says("MIXED of any two numbers (a CODE, a SALT).");
    NumberedSparks x = told(WORLD + "seed 123456;");
    int[] some = {MIN, -1, 0, 6, 255, MAX};
    for (int code : some)
      for (int salt : some) due("mixed(" + code + ", " + salt + ")", x.mixed(code, salt), mixed(123456, code, salt));
    doc.says("0 without a SCENE.");
    NumberedSparks bad = new NumberedSparks();
    for (int code : some)
      for (int salt : some) due("mixed(" + code + ", " + salt + ") without", bad.mixed(code, salt), 0);
    feedText(bad, "world 1 1 1;seed 5;x");
    bad.scene();
    due("mixed(0, 0) behind a fault", bad.mixed(0, 0), 0);
    due("mixed(1, 0) behind a fault", bad.mixed(1, 0), 0);
  }

  static void promise11() {
    doc.says("1 if a SPARK of a CODE IS, else 0.");
    NumberedSparks x = told(Refusals.TEXT);
    for (int code : new int[] {0, 16, 32, 3072, 3104, 256, 1280}) due("is(" + code + ")", x.is(code), 1);
    for (int code : new int[] {-1, -256, -1024, MIN, MAX, 1, 15, 17, 33, 48, 255, 512, 768, 272, 2304, 4096, 4112}) due("is(" + code + ")", x.is(code), 0);
    due("is(0) without sources", told(WORLD).is(0), 0);
    doc.says("-2: there is no SCENE.");
    for (int code : new int[] {0, -1, MIN, MAX}) due("is(" + code + ") without", new NumberedSparks().is(code), -2);
  }

  static void promise12() {
    doc.says("NONE: it has none such (c below 0, too); -2.");
    NumberedSparks x = told(LINE);
    for (int c : new int[] {1, 2, -1, MIN, MAX}) due("child(0, " + c + ")", x.child(0, c), -1);
    for (int c : new int[] {2, 3, -1, -2, MIN, MAX}) due("child(16, " + c + ")", x.child(16, c), -1);
    for (int c : new int[] {0, 1, -1, MIN, MAX}) due("child(18, " + c + ")", x.child(18, c), -1);
    due("child(0, 0)", x.child(0, 0), 16);
    due("child(16, 1)", x.child(16, 1), 18);
    refusals("child");
  }

  static void promise13() {
    doc.says("NONE: it is a ROOT's own; -2.");
    NumberedSparks x = told(Refusals.TEXT);
    for (int code : new int[] {0, 1024, 3072, 256, 1280}) due("parent(" + code + ")", x.parent(code), -1);
    due("parent(16)", x.parent(16), 0);
    due("parent(3104)", x.parent(3104), 3072);
    refusals("parent");
  }

  static void promise14() {
    doc.says("3: how many generations are ahead of it");
    NumberedSparks x = told(LINE);
    int[][] want = {{0, 0}, {16, 1}, {17, 2}, {18, 2}};
    for (int[] w : want) due("spark(" + w[0] + ", 3)", x.spark(w[0], 3), w[1]);
    doc.says("-99: no such one, no such what, no SCENE.");
    refusals("spark");
  }

  static void promise15() {
    doc.says("NONE: it is not there then; -2.");
    // 0 in 5 .. 8, its child 16 in 9 .. 11.
    NumberedSparks x = told(Refusals.TEXT);
    for (int tick : new int[] {0, 4, 9, 30000}) due("place(0, " + tick + ", 0)", x.place(0, tick, 0), -1);
    for (int tick : new int[] {5, 8}) due("place(0, " + tick + ", 0)", x.place(0, tick, 0), 12);
    for (int tick : new int[] {8, 12}) due("place(16, " + tick + ", 2)", x.place(16, tick, 2), -1);
    for (int tick : new int[] {9, 11}) due("place(16, " + tick + ", 2)", x.place(16, tick, 2), 4);
    due("place(256, 0, 2) in the first tick", x.place(256, 0, 2), 12);
    refusals("place");
  }

  static void promise16() {
    doc.says("its KIND's, less 4 times its age by how long it is there (ENDS less BORN), cut, 1 at least.");
    // Ages 0 .. of seven ticks: 0, 4/7, 8/7, 12/7, 16/7, 20/7, 24/7.
    int[] less = {0, 0, 1, 1, 2, 2, 3};
    for (int size : new int[] {1, 2, 3, 4, 9}) {
      NumberedSparks x = told(WORLD + "kind life 7 size " + size + ";source 0 at 0 0 0 from 3 every 1 until 3;");
      for (int age = 0; age < 7; age++) due("size(0, " + (3 + age) + ")", x.size(0, 3 + age), Math.max(1, size - less[age]));
    }
    // 4 times 10 by 40 is 1, just; of one tick nothing is taken.
    NumberedSparks forty = told(WORLD + "kind life 40 size 9;source 0 at 0 0 0 from 0 every 1 until 0;");
    int[][] ages = {{0, 9}, {9, 9}, {10, 8}, {19, 8}, {20, 7}, {29, 7}, {30, 6}, {39, 6}};
    for (int[] w : ages) due("size(0, " + w[0] + ")", forty.size(0, w[0]), w[1]);
    due("size(0, 0)", told(WORLD + "kind life 1 size 9;source 0 at 0 0 0 from 0 every 1 until 0;").size(0, 0), 9);
    // How long it is there, not how long it could be: the edge ends it in age 2.
    NumberedSparks cut = told(WORLD + "kind life 40 falls 4 size 9 ends;source 0 at 0 0 0 from 0 every 1 until 0;");
    due("size(0, 1)", cut.size(0, 1), 7);
    due("size(0, 2)", cut.size(0, 2), -1);
    doc.says("NONE: it is not there then; -2.");
    NumberedSparks x = told(Refusals.TEXT);
    for (int tick : new int[] {0, 4, 9, 30000}) due("size(0, " + tick + ")", x.size(0, tick), -1);
    for (int tick : new int[] {5, 8}) due("size(0, " + tick + ")", x.size(0, tick), 1);
    refusals("size");
  }

  /** y 4, 4, 4 and f, 4 and 3 f, 4 and 6 f, .. in a world of one cell. */
  private static NumberedSparks falling(int f, int life, String edge) {
    return told(WORLD + "kind life " + life + " falls " + f + " " + edge + ";source 0 at 0 0 0 from 100 every 1 until 100;");
  }

  static void promise17() {
    doc.says("of x, y, z each, in TICKS it is there but the first");
    // 4, 4, 8, 16, 28: the world's 8 goes in 0, 0, 1, 2, 3 times.
    int[] up = {0, 0, 1, 2, 3};
    for (int life = 1; life <= 5; life++) due("edges(0) of life " + life, falling(4, life, "").edges(0), up[life - 1]);
    // x, y and z each: one edge in each tick, whichever way.
    int threeWays = 0;
    for (int seed = 0; seed < 40; seed++) {
      NumberedSparks x = told("world 1 2 3;seed " + seed + ";kind life 4 speed 20 bounce;source 0 at 0 0 0 from 0 every 1 until 0;");
      int[] each = new int[3];
      for (int axis = 0; axis < 3; axis++)
        for (int a = 1; a < 4; a++) {
          int speed = draw(seed, 0, 2 + axis, 41) - 20, world = 8 * (1 + axis);
          each[axis] += Math.abs(Math.floorDiv(4 + a * speed, world) - Math.floorDiv(4 + (a - 1) * speed, world));
        }
      due("edges(0) of seed " + seed, x.edges(0), each[0] + each[1] + each[2]);
      if (each[0] > 0 && each[1] > 0 && each[2] > 0) threeWays++;
    }
    due("some went over all three", threeWays > 0 ? 1 : 0, 1);
    doc.says("by how much (without sign) it is another number how often (downwards) the world's goes into where it would be without edges than in the TICK ahead");
    // 4, 4, 0, -8, -20: 0, 0, 0, -1, -3; 4, 4, -1: -1; 4, 4, 7, 13: 1; 4, 4, 13, 31, 58: 1, 3, 7.
    int[][] table = {{-4, 3, 0}, {-4, 4, 1}, {-4, 5, 3}, {-5, 3, 1}, {3, 3, 0}, {3, 4, 1}, {9, 3, 1}, {9, 4, 3}, {9, 5, 7}};
    for (int[] w : table)
      for (String edge : List.of("wrap", "bounce")) due("edges(0) with falls " + w[0] + ", life " + w[1], falling(w[0], w[1], edge).edges(0), w[2]);
    doc.says("(0 of a KIND that ends there).");
    for (int f : new int[] {-9, -5, -4, 4, 9}) due("edges(0)", falling(f, 9, "ends").edges(0), 0);
    doc.says("-2.");
    refusals("edges");
  }

  // ---- windows ----

  static void promise18() {
    doc.says("in TICKS from a to below b (0 .. 30001, a no more than b). -2.");
    // Two in 5, two in 7.
    NumberedSparks x = told(STILL);
    int[][] want = {{0, 5, 0}, {0, 6, 2}, {5, 5, 0}, {5, 6, 2}, {5, 7, 2}, {5, 8, 4}, {6, 7, 0}, {6, 8, 2}, {7, 8, 2}, {8, 30001, 0}, {0, 30001, 4}, {0, 0, 0}, {30001, 30001, 0}};
    for (int[] w : want) due("births(0, " + w[0] + ", " + w[1] + ")", x.births(0, w[0], w[1]), w[2]);
    NumberedSparks first = told(WORLD + KIND + "source 0 at 0 0 0 from 0 every 1 burst 5 until 0;");
    due("births(0, 0, 1)", first.births(0, 0, 1), 5);
    due("births(0, 1, 2)", first.births(0, 1, 2), 0);
    NumberedSparks last = told(WORLD + KIND + "source 0 at 0 0 0 from 9999 every 1 burst 5 jitter 20;");
    due("births(0, 9999, 10020)", last.births(0, 9999, 10020), 5);
    due("births(0, 10020, 30001)", last.births(0, 10020, 30001), 0);
    Refusals.testWindows("births", 0, 30001, (y, a, b) -> y.births(0, a, b));
    refusals("births");
  }

  static void promise19() {
    doc.says("in TICKS from a to below b (0 .. 30001, a no more than b, b no more than 300 above a). -2.");
    // One in 1, one in 4, two in 6.
    NumberedSparks x = told(LINE);
    int[][] want = {{0, 1, 0}, {0, 2, 1}, {1, 1, 0}, {1, 2, 1}, {2, 4, 0}, {2, 5, 1}, {4, 5, 1}, {5, 6, 0}, {5, 7, 2}, {6, 7, 2}, {7, 307, 0}, {6, 306, 2}, {0, 300, 4}, {1, 301, 4}, {0, 0, 0}};
    for (int[] w : want) due("endings(" + w[0] + ", " + w[1] + ")", x.endings(w[0], w[1]), w[2]);
    // The last one that can be: born in 10019 at most, then three lives of up to 60.
    String text = WORLD + "seed 4;kind life 40 vary 20;kind life 40 vary 20 childs 2 of 0;kind life 40 vary 20 childs 2 of 1;source 2 at 0 0 0 from 9999 every 1 burst 5 jitter 20;";
    NumberedSparks late = told(text);
    int all = 0, ends = 0;
    for (int k = 0; k < 5; k++) { all += late.line(1024 * k, 0); ends = Math.max(ends, late.line(1024 * k, 1)); }
    due("all of them", all, 35);
    due("endings from their first tick on", late.endings(9999, 10299), 35);
    due("endings in the last one's tick", late.endings(ends, ends + 300) > 0 ? 1 : 0, 1);
    due("endings behind it", late.endings(ends + 1, ends + 301), 0);
    for (String edge : List.of("wrap", "ends"))
      for (int seed = 0; seed < 5; seed++) {
        NumberedSparks y = told(flying(edge, seed));
        int[] in = new int[100];
        for (int k = 0; k < 6; k++)
          for (int path : PATHS) in[y.spark(1024 * k + path, 6)]++;
        for (int t = 38; t < 100; t++) due("endings(" + t + ", " + (t + 1) + ") of seed " + seed, y.endings(t, t + 1), in[t]);
      }
    Refusals.testWindows("endings", 0, 300, (y, a, b) -> y.endings(a, b));
    refusals("endings");
  }

  static void promise20() {
    doc.says("what NONE: all, 0 and more: of a KIND. -2.");
    NumberedSparks x = told(Refusals.TEXT);
    // 0, 1024, 2048, 3072 of kind 1 in 7; 256 of kind 0 in 0 .. 2, 1280 in 9 .. 11, the children of kind 0 from 9 on.
    int[][] want = {{0, 1, 1, 0}, {2, 1, 1, 0}, {3, 0, 0, 0}, {4, 0, 0, 0}, {5, 2, 0, 2}, {7, 4, 0, 4}, {8, 4, 0, 4}, {9, 7, 5, 2}, {11, 9, 9, 0}, {12, 4, 4, 0}, {13, 4, 4, 0}, {14, 0, 0, 0}};
    for (int[] w : want)
      for (int what = -1; what < 2; what++) due("many(" + w[0] + ", " + what + ")", x.many(w[0], what), w[2 + what]);
    due("many(0, -1) without sparks", told(WORLD).many(0, -1), 0);
    due("many(0, 0) without kinds", told(WORLD).many(0, 0), -2);
    due("many(0, 4)", told(WORLD + KIND.repeat(5)).many(0, 4), 0);
    due("many(0, 5)", told(WORLD + KIND.repeat(5)).many(0, 5), -2);
    refusals("many");
  }

  // ---- frames ----

  static void promise21() {
    doc.says("Of the k-th (from 0) of a FRAME the CODE. NONE: not so many; -2 (k below 0, too).");
    NumberedSparks x = told(DEPTH);
    due("drawn(2, 0)", x.drawn(2, 0), 0);
    due("drawn(2, 8)", x.drawn(2, 8), 3840);
    for (int k : new int[] {9, 10, 1000, MAX}) due("drawn(2, " + k + ")", x.drawn(2, k), -1);
    for (int k : new int[] {-1, -2, MIN}) due("drawn(2, " + k + ")", x.drawn(2, k), -2);
    due("drawn(11, 0)", x.drawn(11, 0), -1);
    due("drawn(11, -1)", x.drawn(11, -1), -2);
    // Frames of 1 to 40: none is lost, whatever room they take.
    for (int many = 1; many <= 40; many++) {
      NumberedSparks y = told(WORLD + "kind life 40;source 0 at 0 0 0 from 0 every 1 until " + (many - 1) + ";");
      for (int k = 0; k <= many; k++) due("drawn(39, " + k + ") of " + many, y.drawn(39, k), k < many ? 1024 * k : -1);
    }
    // Behind a fuller frame nothing of it is left.
    due("drawn(9, 1)", x.drawn(9, 1), -1);
    due("drawn(30001, 100)", x.drawn(30001, 100), -2);
    refusals("drawn");
  }

  static void promise22() {
    doc.says("17 at first, then for each in order 31 times it and CODE, then 31 times that and x of its PLACE, likewise y, z (longs, which go round).");
    NumberedSparks x = told("world 9 9 9;seed 3;kind life 9 speed 9;source 0 at 4 4 4 from 0 every 1 burst 5 until 9;");
    due("digest(5)", x.digest(5), digestByPlaces(x, 5));
    for (String edge : List.of("wrap", "bounce", "ends"))
      for (int seed = 0; seed < 3; seed++)
        for (int tick = 40; tick < 64; tick++) {
          NumberedSparks y = told(flying(edge, seed));
          due("digest(" + tick + ")", y.digest(tick), digestByPlaces(y, tick));
        }
    due("it is too great for an int", (int) x.digest(5) != x.digest(5) ? 1 : 0, 1);
    due("digest(30000)", x.digest(30000), 17);
    due("digest(0)", told(WORLD).digest(0), 17);
    doc.says("0 without a SCENE, for no such TICK.");
    for (int tick : NO_TICKS) due("digest(" + tick + ")", x.digest(tick), 0);
    for (int tick : NO_TICKS) due("digest(" + tick + ") without", new NumberedSparks().digest(tick), 0);
    refusals("digest");
  }

  private static long digestByPlaces(NumberedSparks x, int tick) {
    long n = 17;
    for (int k = 0; x.drawn(tick, k) >= 0; k++) {
      int code = x.drawn(tick, k);
      n = 31 * n + code;
      for (int what = 0; what < 3; what++) n = 31 * n + x.place(code, tick, what);
    }
    return n;
  }

  static void promise23() {
    doc.says("-2.");
    // In the world's corners, too.
    NumberedSparks x = told("world 4 3 2;kind life 1;source 0 at 0 0 0 from 0 every 1 until 0;source 0 at 3 2 1 from 0 every 1 burst 2 until 0;source 0 at 3 0 1 from 0 every 1 burst 3 until 0;"
      + "source 0 at 0 2 1 from 0 every 1 burst 4 until 0;");
    int[][] want = {{1, 0, 0, 3}, {0, 0, 0, 0}, {4, 0, 0, 2}};
    for (int y = 0; y < 3; y++)
      for (int c = 0; c < 4; c++) due("inColumn(0, " + c + ", " + y + ")", x.inColumn(0, c, y), want[y][c]);
    refusals("inColumn");
  }

  static void promise24() {
    doc.says("NONE: none; -2.");
    NumberedSparks x = told(DEPTH);
    due("top(2, 1, 0)", x.top(2, 1, 0), -1);
    due("top(11, 0, 0)", x.top(11, 0, 0), -1);
    due("top(2, 1, 1)", x.top(2, 1, 1), 512);
    due("top(0, 0, 0) with code 0", told(WORLD + "kind life 1;source 0 at 0 0 0 from 0 every 1;").top(0, 0, 0), 0);
    refusals("top");
  }

  static void promise25() {
    doc.says("Of the column with the most in a TICK (of like ones the least y, then x)");
    String[] at = {"0 0", "1 0", "2 0", "0 1", "2 1"};
    for (int i = 0; i < at.length; i++)
      for (int j = 0; j < at.length; j++) {
        if (i == j) continue;
        NumberedSparks x = told("world 3 2 2;kind life 1;source 0 at " + at[i] + " 0 from 0 every 1 until 0;source 0 at " + at[j] + " 1 from 0 every 1 until 0;");
        String first = at[Math.min(i, j)];
        due("fullest(0, 0) of " + at[i] + ", " + at[j], x.fullest(0, 0), first.charAt(0) - '0');
        due("fullest(0, 1) of " + at[i] + ", " + at[j], x.fullest(0, 1), first.charAt(2) - '0');
        due("fullest(0, 2) of " + at[i] + ", " + at[j], x.fullest(0, 2), 1);
        // One more, and it is the fullest, wherever it lies.
        NumberedSparks more = told("world 3 2 2;kind life 1;source 0 at " + at[i] + " 0 from 0 every 1 burst 2 until 0;source 0 at " + at[j] + " 1 from 0 every 1 burst 3 until 0;");
        due("fullest(0, 0) of " + at[i] + ", " + at[j], more.fullest(0, 0), at[j].charAt(0) - '0');
        due("fullest(0, 1) of " + at[i] + ", " + at[j], more.fullest(0, 1), at[j].charAt(2) - '0');
        due("fullest(0, 2) of " + at[i] + ", " + at[j], more.fullest(0, 2), 3);
      }
    NumberedSparks corner = told("world 40 40 40;kind life 1;source 0 at 39 39 39 from 0 every 1;");
    int[] want = {39, 39, 1};
    for (int what = 0; what < 3; what++) due("fullest(0, " + what + ")", corner.fullest(0, what), want[what]);
    doc.says("NONE: no SPARK is there; -2.");
    NumberedSparks x = told(DEPTH);
    for (int what = 0; what < 3; what++) due("fullest(11, " + what + ")", x.fullest(11, what), -1);
    for (int what : new int[] {-1, 3, MIN, MAX}) due("fullest(11, " + what + ")", x.fullest(11, what), -2);
    refusals("fullest");
  }

  static void promise26() {
    doc.says("The CODE of the one nearest to the middle (8 times it and 4) of a CELL in a TICK (by x, y, z squared, together), of like ones the least.");
    // Two, two cells apart: the cell between is as far from each.
    for (String way : List.of("0 1 1|2 1 1", "2 1 1|0 1 1", "1 0 1|1 2 1", "1 2 1|1 0 1", "1 1 0|1 1 2", "1 1 2|1 1 0")) {
      String[] two = way.split("\\|");
      NumberedSparks x = told("world 3 3 3;kind life 1;source 0 at " + two[0] + " from 0 every 1 until 0;source 0 at " + two[1] + " from 0 every 1 until 0;");
      due("nearest(0, 1, 1, 1)", x.nearest(0, 1, 1, 1), 0);
      for (int i = 0; i < 2; i++) due("nearest of " + two[i], x.nearest(0, two[i].charAt(0) - '0', two[i].charAt(2) - '0', two[i].charAt(4) - '0'), 256 * i);
    }
    // Straight or slant: 2 cells one way are farther than 1 each of three ways.
    NumberedSparks slant = told("world 4 4 4;kind life 1;source 0 at 2 0 0 from 0 every 1 until 0;source 0 at 1 1 1 from 0 every 1 until 0;");
    due("nearest(0, 0, 0, 0)", slant.nearest(0, 0, 0, 0), 256);
    NumberedSparks far = told("world 40 40 40;kind life 1;source 0 at 39 39 39 from 0 every 1 until 0;");
    due("nearest(0, 0, 0, 0)", far.nearest(0, 0, 0, 0), 0);
    doc.says("NONE: none; -2.");
    due("nearest(1, 0, 0, 0)", far.nearest(1, 0, 0, 0), -1);
    refusals("nearest");
  }

  static void promise27() {
    doc.says("-2.");
    for (int burst = 1; burst <= 5; burst++)
      due("twos(0)", told(WORLD + "kind life 1;source 0 at 0 0 0 from 0 every 1 burst " + burst + ";").twos(0), burst * (burst - 1) / 2);
    due("twos(0) of none", told(WORLD).twos(0), 0);
    // One column, two cells; two columns, one depth: none of these are twos.
    due("twos(0)", told("world 2 2 2;kind life 1;source 0 at 0 0 0 from 0 every 1;source 0 at 0 0 1 from 0 every 1;source 0 at 0 1 0 from 0 every 1;source 0 at 1 0 0 from 0 every 1;").twos(0), 0);
    // The fullest cell that there can be: 4 sources of 5 in each tick, for 40 ticks.
    String full = "world 1 1 1;kind life 40;" + "source 0 at 0 0 0 from 0 every 1 burst 5;".repeat(4);
    due("twos(100)", told(full).twos(100), 800L * 799 / 2);
    // With lives of 60 and children it is more than an int's half, and stays a number above 0.
    NumberedSparks most = told("world 1 1 1;kind life 40 vary 20;kind life 40 vary 20 childs 2 of 0;kind life 40 vary 20 childs 2 of 1;" + "source 2 at 0 0 0 from 0 every 1 burst 5;".repeat(4));
    long n = most.many(500, -1);
    due("twos(500) of " + n, most.twos(500), n * (n - 1) / 2);
    refusals("twos");
  }

  static void promise28() {
    doc.says("The first TICK from a tick on (99 more at most, to 30000) in which some SPARK is in a column.");
    NumberedSparks x = told("world 2 1 1;kind life 2;source 0 at 1 0 0 from 500 every 50 until 550;");
    int[][] want = {{400, -1}, {401, 500}, {499, 500}, {500, 500}, {501, 501}, {502, 550}, {551, 551}, {552, -1}, {450, 500}, {29900, -1}, {29999, -1}, {30000, -1}};
    for (int[] w : want) due("firstIn(" + w[0] + ", 1, 0)", x.firstIn(w[0], 1, 0), w[1]);
    due("firstIn(500, 0, 0)", x.firstIn(500, 0, 0), -1);
    due("firstIn(0, 0, 0)", told(WORLD + "kind life 1;source 0 at 0 0 0 from 0 every 1;").firstIn(0, 0, 0), 0);
    // y 4, 4, 6, 10: in the tick in which it ends it is not there, though it would be in the column.
    for (int life = 3; life <= 4; life++)
      due("firstIn(0, 0, 1) of life " + life, told("world 2 2 2;kind life " + life + " falls 2;source 0 at 0 0 0 from 0 every 9 until 0;").firstIn(0, 0, 1), life == 3 ? -1 : 3);
    // The soonest of several, not that of the least code.
    NumberedSparks two = told("world 2 1 1;kind life 9;source 0 at 1 0 0 from 30 every 1 until 30;source 0 at 1 0 0 from 20 every 1 until 20;");
    due("firstIn(0, 1, 0)", two.firstIn(0, 1, 0), 20);
    doc.says("NONE: none; -2.");
    due("firstIn(0, 0, 0) without sparks", told(WORLD).firstIn(0, 0, 0), -1);
    refusals("firstIn");
  }

  static void promise29() {
    doc.says("From a to below b (0 .. 30001, b 1 to 60 above a) the first TICK with the most SPARKS, what 0: it, 1: how many. -2.");
    // 0 .. 3: 1, 1, 2, 2, then 0, then 2 again in 10, 11.
    NumberedSparks x = told(WORLD + "kind life 2;kind life 4;source 1 at 0 0 0 from 0 every 1 until 0;source 0 at 0 0 0 from 2 every 1 until 2;source 0 at 0 0 0 from 10 every 1 burst 2 until 10;");
    int[][] want = {{0, 1, 0, 1}, {0, 2, 0, 1}, {0, 3, 2, 2}, {0, 60, 2, 2}, {3, 60, 3, 2}, {4, 10, 4, 0}, {4, 11, 10, 2}, {11, 12, 11, 2}, {11, 71, 11, 2}, {12, 72, 12, 0}, {29941, 30001, 29941, 0},
      {30000, 30001, 30000, 0}};
    for (int[] w : want)
      for (int what = 0; what < 2; what++) due("peak(" + w[0] + ", " + w[1] + ", " + what + ")", x.peak(w[0], w[1], what), w[2 + what]);
    comingAndGoing();
    Refusals.testWindows("peak", 1, 60, (y, a, b) -> y.peak(a, b, 1));
    refusals("peak");
  }

  /** Sparks that come and go in the window, ahead of it, behind it: held against many(). */
  private static void comingAndGoing() {
    String text = "world 5 5 5;seed 8;kind life 2 vary 4;kind life 1 vary 3 childs 2 of 0;source 1 at 2 2 2 from 20 every 6 burst 4 until 60 jitter 9;";
    NumberedSparks x = told(text);
    int[] many = new int[120];
    for (int t = 0; t < 120; t++) many[t] = x.many(t, -1);
    for (int a = 1; a < 60; a += 3) {
      NumberedSparks y = told(text);
      for (int b = a + 1; b <= a + 60; b += 4) {
        int best = a;
        for (int t = a; t < b; t++) if (many[t] > many[best]) best = t;
        due("peak(" + a + ", " + b + ", 0)", y.peak(a, b, 0), best);
        due("peak(" + a + ", " + b + ", 1)", y.peak(a, b, 1), many[best]);
      }
    }
  }

  static void promise30() {
    doc.says("what 0: how many these are (it counted), 1: the last TICK in which one of them ENDS. -2.");
    NumberedSparks x = told(Refusals.TEXT);
    int[][] want = {{0, 3, 12}, {16, 1, 12}, {3072, 3, 14}, {3104, 1, 14}, {256, 1, 3}, {1280, 1, 12}};
    for (int[] w : want)
      for (int what = 0; what < 2; what++) due("line(" + w[0] + ", " + what + ")", x.line(w[0], what), w[1 + what]);
    // The last of all roots.
    NumberedSparks late = told(WORLD + "kind life 40 vary 20;kind life 40 vary 20 childs 2 of 0;kind life 40 vary 20 childs 2 of 1;source 2 at 0 0 0 from 0 every 1 burst 5 jitter 20;");
    int code = 1024 * 49999, last = 0;
    for (int path : new int[] {0, 16, 17, 18, 32, 33, 34}) last = Math.max(last, late.spark(code + path, 6));
    due("line(" + code + ", 0)", late.line(code, 0), 7);
    due("line(" + code + ", 1)", late.line(code, 1), last);
    due("line(" + (code + 32) + ", 0)", late.line(code + 32, 0), 3);
    due("line(" + (code + 32) + ", 1)", late.line(code + 32, 1), Math.max(late.spark(code + 33, 6), late.spark(code + 34, 6)));
    refusals("line");
  }

  static void promise31() {
    doc.says("The least box of CELLS that has all SPARKS of a TICK, what 0, 1, 2: the least x, y, z, 3, 4, 5: the greatest.");
    NumberedSparks x = told("world 40 40 40;kind life 1;source 0 at 0 39 7 from 0 every 1 until 1;source 0 at 39 0 8 from 0 every 1 until 0;source 0 at 5 6 9 from 0 every 1 until 0;");
    int[] want = {0, 0, 7, 39, 39, 9};
    int[] one = {0, 39, 7, 0, 39, 7};
    for (int what = 0; what < 6; what++) {
      due("box(0, " + what + ")", x.box(0, what), want[what]);
      due("box(1, " + what + ")", x.box(1, what), one[what]);
    }
    doc.says("NONE: none are there; -2.");
    for (int what = 0; what < 6; what++) due("box(2, " + what + ")", x.box(2, what), -1);
    for (int what : new int[] {-1, 6, MIN, MAX}) due("box(2, " + what + ")", x.box(2, what), -2);
    refusals("box");
  }

  static void promise32() {
    doc.says("The sum of PLACES' numbers (what 0, 1, 2) of all SPARKS of a TICK by how many they are, cut.");
    // x 4, 12 and 12 by 3 is 9 and a third; y 4, 4, 12: 6 and two thirds; z 20.
    NumberedSparks x = told("world 2 2 3;kind life 1;source 0 at 0 0 2 from 0 every 1 until 0;source 0 at 1 0 2 from 0 every 1 until 0;source 0 at 1 1 2 from 0 every 1 until 0;");
    int[] want = {9, 6, 20};
    for (int what = 0; what < 3; what++) due("middle(0, " + what + ")", x.middle(0, what), want[what]);
    doc.says("NONE: none are there; -2.");
    for (int what = 0; what < 3; what++) due("middle(1, " + what + ")", x.middle(1, what), -1);
    for (int what : new int[] {-1, 3, MIN, MAX}) due("middle(1, " + what + ")", x.middle(1, what), -2);
    refusals("middle");
  }

  static void promise33() {
    doc.says("row by row (y 0 first) for each x . without SPARKS, else the colour of the one on top; LF (10) behind each row: how many bytes.");
    for (int[] world : new int[][] {{1, 1}, {1, 40}, {40, 1}, {40, 40}, {3, 2}}) {
      NumberedSparks x = told("world " + world[0] + " " + world[1] + " 1;kind life 1;source 0 at " + (world[0] - 1) + " " + (world[1] - 1) + " 0 from 0 every 1 burst 3 until 0;");
      int length = (world[0] + 1) * world[1];
      due("picture(1)", x.picture(1), length);
      due("octet of the last cell", x.octet(length - 2), '.');
      due("picture(0)", x.picture(0), length);
      due("count(7)", x.count(7), length);
      due("octet of the last cell", x.octet(length - 2), '0' + draw(0, 2048, 5, 8));
      due("octet of the last one", x.octet(length - 1), 10);
      due("octet behind it", x.octet(length), -1);
      due("octet of the first row's end", x.octet(world[0]), 10);
      if (length > 2) due("octet(0)", x.octet(0), '.');
    }
    // The one on top may have the least code of all, the greatest, or one between.
    NumberedSparks three = told("world 3 2 2;kind life 1;source 0 at 2 0 1 from 0 every 1 until 0;source 0 at 0 1 0 from 0 every 1 until 0;source 0 at 1 1 0 from 0 every 1 burst 2 until 0;"
      + "source 0 at 0 1 1 from 0 every 1 until 0;");
    due("picture(0)", three.picture(0), 8);
    dueOut(three, ".." + draw(0, 0, 5, 8) + "\n" + draw(0, 256, 5, 8) + draw(0, 1536, 5, 8) + ".\n");
    nothingCountedIsLeft();
    doc.says("-2 (OUT stays).");
    outStays("picture");
  }

  /** One spark in another column each tick: what was counted, for whichever call, is not in the next picture. */
  private static void nothingCountedIsLeft() {
    String text = "world 2 1 2;kind life 1;source 0 at 0 0 0 from 0 every 1 until 0;source 0 at 1 0 1 from 1 every 1 until 1;";
    String[] pictures = {draw(0, 0, 5, 8) + ".\n", "." + draw(0, 256, 5, 8) + "\n"};
    String[][] layers = {{"1.\n", "..\n"}, {"..\n", ".1\n"}};
    for (int tick = 0; tick < 2; tick++)
      for (String ahead : List.of("columns", "twos", "picture")) {
        NumberedSparks x = told(text);
        Refusals.call(x, ahead, 1 - tick);
        x.picture(tick);
        dueOut(x, pictures[tick]);
        for (int z = 0; z < 2; z++) {
          Refusals.call(x, ahead, 1 - tick);
          x.layer(tick, z);
          dueOut(x, layers[tick][z]);
        }
        Refusals.call(x, ahead, 1 - tick);
        due("columns(" + tick + ")", x.columns(tick), 1);
        Refusals.call(x, ahead, 1 - tick);
        due("fullest(" + tick + ", 0)", x.fullest(tick, 0), tick);
        Refusals.call(x, ahead, 1 - tick);
        due("lull(0, 0, 9, 0)", x.lull(0, 0, 9, 0), 8);
        Refusals.call(x, ahead, 1 - tick);
        due("peak(2, 9, 1)", x.peak(2, 9, 1), 0);
        Refusals.call(x, ahead, 1 - tick);
        due("cellsOf(0)", x.cellsOf(0), 1);
        Refusals.call(x, ahead, 1 - tick);
        due("twos(" + tick + ")", x.twos(tick), 0);
      }
  }

  /** Whatever is refused, what was told stays: the test of refused calls tells a spark first. */
  private static void outStays(String name) {
    refusals(name);
    NumberedSparks x = new NumberedSparks();
    Refusals.testWithout(name, x);
    due("count(7)", x.count(7), 0);
    NumberedSparks y = told(Refusals.TEXT);
    y.layer(7, 0);
    String told = out(y);
    for (int wrong : new int[] {-1, MIN, MAX, 30001}) {
      due("a refused " + name, Refusals.call(y, name, name.equals("layer") ? new int[] {wrong, 0} : new int[] {wrong}), -2);
      due("OUT stays", out(y).equals(told) ? 1 : 0, 1);
    }
  }

  static void promise34() {
    doc.says("Byte i of OUT (what was told in it last by a call that was not refused, whatever came since, a new text, too; empty ahead of any).");
    NumberedSparks x = new NumberedSparks();
    due("octet(0)", x.octet(0), -1);
    x.picture(0);
    due("octet(0) behind a refused one", x.octet(0), -1);
    feedText(x, Refusals.TEXT);
    x.scene();
    due("octet(0)", x.octet(0), -1);
    x.tell(0);
    String told = "b00 5-9 12 12 4";
    dueOut(x, told);
    x.picture(-1);
    x.layer(0, 2);
    x.tell(1);
    dueOut(x, told);
    x.seed(4);
    x.sets(1, 0, 9);
    x.many(7, -1);
    dueOut(x, told);
    feedText(x, "world 1 1");
    x.scene();
    dueOut(x, told);
    feedText(x, "world 2 1 1;");
    x.scene();
    dueOut(x, told);
    // A shorter one leaves nothing of the longer one.
    x.picture(0);
    dueOut(x, "..\n");
    doc.says("NONE: there is none such.");
    for (int i : new int[] {-1, 3, 4, 14, MIN, MAX}) due("octet(" + i + ")", x.octet(i), -1);
    NumberedSparks big = told("world 40 40 1;");
    big.picture(0);
    due("octet(1639)", big.octet(1639), 10);
    due("octet(1640)", big.octet(1640), -1);
  }

  // ---- single sparks once more ----

  static void promise35() {
    doc.says("-2.");
    // One tick, one cell; 40 ticks that stand still, one; a cell that it comes back to counts once.
    due("cellsOf(0)", told(WORLD + "kind life 1;source 0 at 0 0 0 from 0 every 1;").cellsOf(0), 1);
    due("cellsOf(0)", told(WORLD + "kind life 40 vary 20 speed 20 falls 9;source 0 at 0 0 0 from 0 every 1;").cellsOf(0), 1);
    int[] cells = {1, 1, 1, 2, 2, 2};
    for (int life = 1; life <= 6; life++)
      due("cellsOf(0) of life " + life, told("world 2 2 2;kind life " + life + " falls 2;source 0 at 0 0 0 from 0 every 9 until 0;").cellsOf(0), life < 4 ? cells[life - 1] : 2);
    // As many unlike ones as ticks: the last tick's cell counts, the one behind it does not.
    for (int seed = 0; seed < 30; seed++) {
      NumberedSparks x = told("world 40 40 40;seed " + seed + ";kind life 5 vary 5 speed 20 bounce;source 0 at 20 20 20 from 0 every 1 until 0;");
      List<String> unlike = new ArrayList<>();
      for (int t = 0; t < x.spark(0, 6); t++) {
        String cell = x.place(0, t, 0) / 8 + " " + x.place(0, t, 1) / 8 + " " + x.place(0, t, 2) / 8;
        if (!unlike.contains(cell)) unlike.add(cell);
      }
      due("cellsOf(0) of seed " + seed, x.cellsOf(0), unlike.size());
    }
    refusals("cellsOf");
  }

  static void promise36() {
    doc.says("The first TICK in which two SPARKS are in one CELL. NONE: they never are; -2 (one and the same, too).");
    // Lives of 3 in one place, from 0 and from s on: in 0 .. 2 they are together only if s is below 3.
    for (int s = 0; s < 6; s++) {
      NumberedSparks x = told(WORLD + "kind life 3;source 0 at 0 0 0 from 0 every 1 until 0;source 0 at 0 0 0 from " + s + " every 1 until " + s + ";");
      due("meets(0, 256) of " + s, x.meets(0, 256), s < 3 ? s : -1);
      due("meets(256, 0) of " + s, x.meets(256, 0), s < 3 ? s : -1);
      due("meets(0, 0)", x.meets(0, 0), -2);
      due("meets(256, 256)", x.meets(256, 256), -2);
    }
    // One column, two depths; one depth, two columns.
    NumberedSparks apart = told("world 2 2 2;kind life 3;source 0 at 0 0 0 from 0 every 1;source 0 at 0 0 1 from 0 every 1;source 0 at 0 1 0 from 0 every 1;source 0 at 1 0 0 from 0 every 1;");
    for (int s = 1; s < 4; s++) due("meets(0, " + 256 * s + ")", apart.meets(0, 256 * s), -1);
    due("meets of one that is none with itself", apart.meets(1, 1), -2);
    flyingMeets();
    refusals("meets");
  }

  /** Sparks that fly, born in their own ticks, far from 0. */
  private static void flyingMeets() {
    int met = 0, never = 0, later = 0;
    for (int seed = 0; seed < 20; seed++) {
      NumberedSparks x = told("world 3 2 2;seed " + seed + ";kind life 9 vary 9 speed 5;source 0 at 0 0 0 from 50 every 3 until 53;source 0 at 2 1 1 from 47 every 5 until 52 jitter 6;");
      int[] codes = {0, 1024, 256, 1280};
      for (int one : codes)
        for (int two : codes) {
          if (one == two) continue;
          int want = -1;
          for (int t = 80; t >= 40; t--) {
            boolean together = x.place(one, t, 0) >= 0 && x.place(two, t, 0) >= 0;
            for (int what = 0; what < 3 && together; what++) together = x.place(one, t, what) / 8 == x.place(two, t, what) / 8;
            if (together) want = t;
          }
          x = told("world 3 2 2;seed " + seed + ";kind life 9 vary 9 speed 5;source 0 at 0 0 0 from 50 every 3 until 53;source 0 at 2 1 1 from 47 every 5 until 52 jitter 6;");
          due("meets(" + one + ", " + two + ") of seed " + seed, x.meets(one, two), want);
          if (want < 0) never++; else met++;
          if (want > Math.max(x.spark(one, 5), x.spark(two, 5))) later++;
        }
    }
    due("some met, some never, some later than both were there", met > 0 && never > 0 && later > 0 ? 1 : 0, 1);
  }

  static void promise37() {
    doc.says("The CODE of the n-th (from 0) of a SOURCE's ROOTS' own SPARKS by BORN, of like ones by CODE. NONE: not so many; -2 (n below 0, too).");
    int likeOnes = 0, turned = 0;
    for (int seed = 0; seed < 10; seed++) {
      NumberedSparks x = told(WORLD + "seed " + seed + ";" + KIND + "source 0 at 0 0 0 from 3 every 2 burst 3 until 20 jitter 9;");
      int was = -1, wasBorn = -1;
      for (int n = 0; n < 27; n++) {
        int code = x.bornAs(0, n), born = x.spark(code, 5);
        due("bornAs(0, " + n + ") stands behind the one ahead", born > wasBorn || born == wasBorn && code > was ? 1 : 0, 1);
        if (born == wasBorn) likeOnes++;
        if (code < was) turned++;
        was = code;
        wasBorn = born;
      }
      for (int n : new int[] {27, 28, MAX}) due("bornAs(0, " + n + ")", x.bornAs(0, n), -1);
      for (int n : new int[] {-1, MIN}) due("bornAs(0, " + n + ")", x.bornAs(0, n), -2);
    }
    due("there were like ones, and later ones born ahead", likeOnes > 0 && turned > 0 ? 1 : 0, 1);
    due("bornAs(0, 0) of none", told(WORLD + KIND + "source 0 at 0 0 0 from 9 every 1 until 8;").bornAs(0, 0), -1);
    NumberedSparks most = told(WORLD + KIND + "source 0 at 0 0 0 from 0 every 1 burst 5;");
    due("bornAs(0, 49999)", most.bornAs(0, 49999), 1024 * 49999);
    due("bornAs(0, 50000)", most.bornAs(0, 50000), -1);
    refusals("bornAs");
  }

  static void promise38() {
    doc.says("The CODE of the one of a SOURCE's ROOTS' own SPARKS that is BORN last of those up to a TICK (of like ones the greatest CODE). NONE: none are; -2.");
    NumberedSparks x = told(STILL);
    int[][] want = {{0, -1}, {4, -1}, {5, 1024}, {6, 1024}, {7, 3072}, {8, 3072}, {30000, 3072}};
    for (int[] w : want) due("latest(0, " + w[0] + ")", x.latest(0, w[0]), w[1]);
    // It is asked for, though it has ended.
    due("many(30000, -1)", x.many(30000, -1), 0);
    int turned = 0;
    NumberedSparks y = told(DRAWN);
    int[] born = new int[42];
    for (int k = 0; k < 42; k++) born[k] = y.spark(1024 * k, 5);
    for (int tick = 15; tick < 100; tick++) {
      int best = -1;
      for (int k = 0; k < 42; k++) if (born[k] <= tick && (best < 0 || born[k] >= born[best])) best = k;
      due("latest(0, " + tick + ")", y.latest(0, tick), best < 0 ? -1 : 1024 * best);
      for (int k = best + 1; best >= 0 && k < 42; k++) if (born[k] < born[best]) turned++;
    }
    due("some with a greater code were born sooner", turned > 0 ? 1 : 0, 1);
    refusals("latest");
  }

  static void promise39() {
    doc.says("row by row (y 0 first) for each x . without SPARKS in that CELL, else how many there are (9, if there are more); LF (10) behind each row: how many bytes.");
    // 1 to 20 in one cell, one deeper in the same column.
    for (int many = 1; many <= 20; many++) {
      NumberedSparks x = told("world 2 2 2;kind life 40;source 0 at 1 0 0 from 0 every 1 until " + (many - 1) + ";source 0 at 1 0 1 from 0 every 1 until 0;");
      due("layer(20, 0)", x.layer(20, 0), 6);
      dueOut(x, "." + Math.min(9, many) + "\n..\n");
      x.layer(20, 1);
      dueOut(x, ".1\n..\n");
    }
    for (int[] world : new int[][] {{1, 1}, {1, 40}, {40, 1}, {40, 40}}) {
      NumberedSparks x = told("world " + world[0] + " " + world[1] + " 40;kind life 1;source 0 at " + (world[0] - 1) + " " + (world[1] - 1) + " 39 from 0 every 1 burst 3 until 0;");
      int length = (world[0] + 1) * world[1];
      due("layer(0, 0)", x.layer(0, 0), length);
      due("octet of the last cell", x.octet(length - 2), '.');
      due("layer(0, 39)", x.layer(0, 39), length);
      due("octet of the last cell", x.octet(length - 2), '3');
      due("octet of the last one", x.octet(length - 1), 10);
      due("octet behind it", x.octet(length), -1);
    }
    doc.says("-2 (OUT stays).");
    outStays("layer");
  }

  static void promise40() {
    doc.says("-2.");
    // 0, 1024 in 5 .. 7, 2048, 3072 in 7 .. 9.
    NumberedSparks x = told(STILL);
    int[][] want = {{4, 5, 0}, {5, 5, 2}, {5, 7, 2}, {5, 8, 0}, {7, 7, 4}, {7, 8, 2}, {7, 9, 2}, {7, 10, 0}, {6, 8, 0}, {0, 30000, 0}};
    for (int[] w : want) {
      due("both(" + w[0] + ", " + w[1] + ")", x.both(w[0], w[1]), w[2]);
      due("both(" + w[1] + ", " + w[0] + ")", x.both(w[1], w[0]), w[2]);
    }
    refusals("both");
  }

  static void promise41() {
    doc.says("How many SPARKS are within r (0 .. 600) EIGHTHS of the middle of a CELL in a TICK (squared: no more than r squared). -2.");
    NumberedSparks x = told("world 3 1 1;kind life 1;source 0 at 0 0 0 from 0 every 1 until 0;source 0 at 1 0 0 from 0 every 1 until 0;");
    int[][] want = {{0, 1}, {7, 1}, {8, 2}, {9, 2}, {600, 2}, {601, -2}, {-1, -2}, {MIN, -2}, {MAX, -2}};
    for (int[] w : want) due("within(0, 0, 0, 0, " + w[0] + ")", x.within(0, 0, 0, 0, w[0]), w[1]);
    due("within(0, 2, 0, 0, 0)", x.within(0, 2, 0, 0, 0), 0);
    // The farthest that there can be: 312 each way are 540.4 together.
    NumberedSparks far = told("world 40 40 40;kind life 1;source 0 at 39 39 39 from 0 every 1 until 0;");
    due("within(0, 0, 0, 0, 540)", far.within(0, 0, 0, 0, 540), 0);
    due("within(0, 0, 0, 0, 541)", far.within(0, 0, 0, 0, 541), 1);
    due("within(0, 39, 39, 39, 0)", far.within(0, 39, 39, 39, 0), 1);
    // Each way counts.
    for (String at : List.of("1 0 0", "0 1 0", "0 0 1")) {
      NumberedSparks y = told("world 2 2 2;kind life 1;source 0 at " + at + " from 0 every 1 until 0;");
      due("within(0, 0, 0, 0, 7) of " + at, y.within(0, 0, 0, 0, 7), 0);
      due("within(0, 0, 0, 0, 8) of " + at, y.within(0, 0, 0, 0, 8), 1);
    }
    refusals("within");
  }

  static void promise42() {
    doc.says("Of the SPARKS of a generation (0, 1, 2) in a TICK, what 0: how many, 1: their ages together (TICKS from BORN), 2: the CODE of the eldest (of like ones the least; NONE without). -2.");
    NumberedSparks x = told(LINE.replace("until 0", "until 1"));
    // Tick, generation, how many, ages, eldest.
    int[][] want = {{0, 0, 1, 0, 0}, {0, 1, 0, 0, -1}, {0, 2, 0, 0, -1}, {1, 0, 1, 0, 1024}, {1, 1, 1, 0, 16}, {2, 1, 2, 1, 16}, {4, 1, 1, 2, 1040}, {4, 2, 2, 0, 17}, {5, 2, 4, 2, 17},
      {6, 2, 2, 2, 1041}, {7, 2, 0, 0, -1}, {30000, 0, 0, 0, -1}};
    for (int[] w : want)
      for (int what = 0; what < 3; what++) due("ofAge(" + w[0] + ", " + w[1] + ", " + what + ")", x.ofAge(w[0], w[1], what), w[2 + what]);
    // The eldest has not the least code, where a jitter turns them round.
    int turned = 0;
    for (int seed = 0; seed < 10; seed++) {
      NumberedSparks y = told(WORLD + "seed " + seed + ";kind life 40;source 0 at 0 0 0 from 0 every 1 burst 3 until 0 jitter 20;");
      int best = 0, ages = 0;
      for (int k = 0; k < 3; k++) {
        ages += 20 - y.spark(1024 * k, 5);
        if (y.spark(1024 * k, 5) < y.spark(1024 * best, 5)) best = k;
      }
      due("ofAge(20, 0, 2) of seed " + seed, y.ofAge(20, 0, 2), 1024 * best);
      due("ofAge(20, 0, 1) of seed " + seed, y.ofAge(20, 0, 1), ages);
      if (best > 0) turned++;
    }
    due("some were turned round", turned > 0 ? 1 : 0, 1);
    refusals("ofAge");
  }

  static void promise43() {
    doc.says("The CODE of the youngest SPARK from which two SPARKS come (or which one of them is itself). NONE: they are of two ROOTS; -2.");
    NumberedSparks x = told(WORLD + KIND + "kind life 1 childs 2 of 0;kind life 1 childs 2 of 1;source 2 at 0 0 0 from 0 every 1 until 1;source 2 at 0 0 0 from 0 every 1 until 1;");
    int[] paths = {0, 16, 17, 18, 32, 33, 34};
    int[] up = {-1, 0, 16, 16, 0, 32, 32};
    for (int p : paths)
      for (int q : paths) {
        List<Integer> line = new ArrayList<>();
        for (int i = p; i >= 0; i = up[List.of(0, 16, 17, 18, 32, 33, 34).indexOf(i)]) line.add(i);
        int want = q;
        while (!line.contains(want)) want = up[List.of(0, 16, 17, 18, 32, 33, 34).indexOf(want)];
        due("kin(" + (1280 + p) + ", " + (1280 + q) + ")", x.kin(1280 + p, 1280 + q), 1280 + want);
        // The same paths of two roots: of one source, of two.
        due("kin(" + p + ", " + (1024 + q) + ")", x.kin(p, 1024 + q), -1);
        due("kin(" + p + ", " + (256 + q) + ")", x.kin(p, 256 + q), -1);
      }
    refusals("kin");
  }

  static void promise44() {
    doc.says("the least (end 0), the greatest (1). -2.");
    // y: 4, 4, 6, 10, 16, 24 without edges; its first and its last tick count, the one behind does not.
    int[][] wrap = {{4, 4}, {4, 4}, {4, 6}, {4, 10}, {0, 10}, {0, 10}};
    int[][] bounce = {{4, 4}, {4, 4}, {4, 6}, {4, 10}, {4, 15}, {4, 15}};
    for (int life = 1; life <= 6; life++)
      for (int end = 0; end < 2; end++) {
        due("reach(0, 1, " + end + ")", told(FALL.replace("life 6", "life " + life).replace("EDGE", "wrap")).reach(0, 1, end), wrap[life - 1][end]);
        due("reach(0, 1, " + end + ")", told(FALL.replace("life 6", "life " + life).replace("EDGE", "bounce")).reach(0, 1, end), bounce[life - 1][end]);
        due("reach(0, 1, " + end + ")", told(FALL.replace("life 6", "life " + life).replace("EDGE", "ends")).reach(0, 1, end), end == 0 ? 4 : wrap[Math.min(3, life - 1)][1]);
      }
    // The first place can be the greatest.
    NumberedSparks rise = told(RISE.replace("EDGE", ""));
    due("reach(0, 1, 1)", rise.reach(0, 1, 1), 12);
    due("reach(0, 1, 0)", rise.reach(0, 1, 0), 0);
    // x and z, too, of sparks that are born far from 0.
    for (int seed = 0; seed < 20; seed++) {
      NumberedSparks x = told("world 9 9 9;seed " + seed + ";kind life 1 vary 5 speed 9 bounce;source 0 at 4 4 4 from 30 every 1 burst 4 until 30 jitter 9;");
      for (int k = 0; k < 4; k++)
        for (int what = 0; what < 3; what++) {
          int least = MAX, most = MIN;
          for (int t = x.spark(1024 * k, 5); t < x.spark(1024 * k, 6); t++) {
            least = Math.min(least, x.place(1024 * k, t, what));
            most = Math.max(most, x.place(1024 * k, t, what));
          }
          due("reach(" + 1024 * k + ", " + what + ", 0) of seed " + seed, x.reach(1024 * k, what, 0), least);
          due("reach(" + 1024 * k + ", " + what + ", 1) of seed " + seed, x.reach(1024 * k, what, 1), most);
        }
    }
    refusals("reach");
  }

  static void promise45() {
    doc.says("The first TICK in which a SPARK has come over an edge (as in edges()). NONE: never; -2.");
    // 4, 4, 8: over in age 2; 4, 4, 0, -8: in 3; 4, 4, -1: in 2; 4, 4, 7, 13: in 3.
    int[][] table = {{4, 2}, {-4, 3}, {-5, 2}, {3, 3}};
    for (int[] w : table)
      for (int life = 1; life <= 5; life++) {
        for (String edge : List.of("wrap", "bounce")) due("over(0) with falls " + w[0] + ", life " + life, falling(w[0], life, edge).over(0), life > w[1] ? 100 + w[1] : -1);
        due("over(0) of one that ends", falling(w[0], life, "ends").over(0), -1);
      }
    due("over(0) of one that stands", falling(0, 40, "").over(0), -1);
    // x and z, too: the first of the three.
    for (int seed = 0; seed < 30; seed++) {
      NumberedSparks x = told("world 2 3 4;seed " + seed + ";kind life 9 speed 5;source 0 at 1 1 1 from 0 every 1 until 0;");
      int first = -1;
      for (int a = 8; a >= 1; a--)
        for (int axis = 0; axis < 3; axis++) {
          int at = 12 + a * (draw(seed, 0, 2 + axis, 11) - 5), was = at - (draw(seed, 0, 2 + axis, 11) - 5), world = 8 * (2 + axis);
          if (Math.floorDiv(at, world) != Math.floorDiv(was, world)) first = a;
        }
      due("over(0) of seed " + seed, x.over(0), first);
    }
    refusals("over");
  }

  static void promise46() {
    doc.says("How often in TICKS from a to below b (0 .. 30001, a no more than b, b no more than 60 above a) a SPARK that is there in one of them and the TICK ahead of it (ahead of a, too) "
      + "goes from a CELL with an x below n to one with n or above (way 1), or back (0). n 1 to the world's less 1. -2.");
    crossings();
    Refusals.testWindows("flux", 0, 60, (y, a, b) -> y.flux(a, b, 1, 1));
    for (int cells : new int[] {1, 2, 40}) {
      NumberedSparks x = told("world " + cells + " 1 1;");
      for (int n : new int[] {-1, 0, 1, cells - 1, cells, cells + 1, MIN, MAX}) due("flux(0, 60, " + n + ", 0)", x.flux(0, 60, n, 0), n >= 1 && n <= cells - 1 ? 0 : -2);
    }
    refusals("flux");
  }

  /** One spark that goes 8 eighths a tick, a cell each: from x 1 up, round to 0, over and over. */
  private static void crossings() {
    String text = "world 4 1 1;seed SEED;kind life 9 speed 8;source 0 at 1 0 0 from 10 every 1 until 10;";
    int seed = 0, back = 0;
    while (draw(seed, 0, 2, 17) - 8 != 8) seed++;
    while (draw(back, 0, 2, 17) - 8 != -8) back++;
    NumberedSparks x = told(text.replace("SEED", "" + seed));
    // Cells in 10 .. 18: 1, 2, 3, 0, 1, 2, 3, 0, 1.
    int[][] up = {{10, 11, 2, 0}, {11, 12, 2, 1}, {11, 11, 2, 0}, {0, 11, 2, 0}, {0, 12, 2, 1}, {10, 19, 2, 2}, {12, 19, 2, 1}, {12, 15, 2, 0}, {12, 16, 2, 1}, {18, 19, 1, 1}, {19, 60, 1, 0}, {10, 19, 3, 2},
      {10, 19, 1, 2}, {12, 13, 3, 1}, {13, 14, 3, 0}};
    for (int[] w : up) due("flux(" + w[0] + ", " + w[1] + ", " + w[2] + ", 1)", x.flux(w[0], w[1], w[2], 1), w[3]);
    int[][] down = {{10, 14, 2, 1}, {10, 13, 2, 0}, {13, 14, 2, 1}, {14, 18, 2, 1}, {14, 17, 2, 0}, {10, 19, 1, 2}, {10, 19, 3, 2}};
    for (int[] w : down) due("flux(" + w[0] + ", " + w[1] + ", " + w[2] + ", 0)", x.flux(w[0], w[1], w[2], 0), w[3]);
    // The other way round: 1, 0, 3, 2, 1, 0, 3, 2, 1.
    NumberedSparks y = told(text.replace("SEED", "" + back));
    due("flux(10, 19, 1, 0)", y.flux(10, 19, 1, 0), 2);
    due("flux(10, 19, 1, 1)", y.flux(10, 19, 1, 1), 2);
    due("flux(11, 12, 1, 0)", y.flux(11, 12, 1, 0), 1);
    due("flux(12, 13, 2, 1)", y.flux(12, 13, 2, 1), 1);
    due("flux(12, 13, 2, 0)", y.flux(12, 13, 2, 0), 0);
    // A child that begins over there has not gone over: it was not there in the tick ahead.
    NumberedSparks kid = told("world 2 1 1;seed " + seed + ";kind life 3;kind life 2 speed 8 childs 1 of 0;source 1 at 0 0 0 from 0 every 1 until 0;");
    due("flux(0, 60, 1, 1)", kid.flux(0, 60, 1, 1), 1);
    due("flux(2, 60, 1, 1)", kid.flux(2, 60, 1, 1), 0);
    due("flux(1, 2, 1, 1)", kid.flux(1, 2, 1, 1), 1);
  }

  // ---- changes ----

  static void promise47() {
    doc.says("What a KIND has (what 0: life, 1: vary, 2: speed, 3: falls, 4: size) becomes v (as I bounds it): what it was.");
    int[][] bounds = {{1, 40}, {0, 20}, {0, 20}, {-9, 9}, {1, 9}};
    for (int what = 0; what < 5; what++) {
      NumberedSparks x = told(Refusals.TEXT);
      int was = x.kind(1, what);
      for (int v : new int[] {bounds[what][0], bounds[what][1], bounds[what][1], bounds[what][0]}) {
        due("sets(1, " + what + ", " + v + ")", x.sets(1, what, v), was);
        due("kind(1, " + what + ")", x.kind(1, what), v);
        was = v;
      }
      for (int other = 0; other < 8; other++) {
        due("kind(0, " + other + ") stays", x.kind(0, other), told(Refusals.TEXT).kind(0, other));
        if (other != what) due("kind(1, " + other + ") stays", x.kind(1, other), told(Refusals.TEXT).kind(1, other));
      }
    }
    // A scene whose kind was set is like one that was told so.
    NumberedSparks set = told("world 5 5 5;kind life 3;source 0 at 2 2 2 from 0 every 1 burst 5 until 9;");
    set.digest(5);
    int[] values = {6, 5, 4, -3, 2};
    for (int what = 0; what < 5; what++) {
      set.sets(0, what, values[what]);
      set.digest(5);
    }
    NumberedSparks as = told("world 5 5 5;kind life 6 vary 5 speed 4 falls -3 size 2;source 0 at 2 2 2 from 0 every 1 burst 5 until 9;");
    for (int tick = 0; tick < 20; tick++) due("digest(" + tick + ")", set.digest(tick), as.digest(tick));
    doc.says("-99: no such one, no such what, number, no SCENE.");
    for (int what = 0; what < 5; what++) {
      NumberedSparks x = told(Refusals.TEXT);
      String before = Refusals.stateOf(x);
      for (int v : new int[] {bounds[what][0] - 1, bounds[what][1] + 1, MIN, MAX}) due("sets(0, " + what + ", " + v + ")", x.sets(0, what, v), -99);
      due("all stays", Refusals.stateOf(x).equals(before) ? 1 : 0, 1);
      due("undo()", x.undo(), -1);
    }
    refusals("sets");
  }

  static void promise48() {
    doc.says("The latest seed(), sets() by which something became otherwise is taken back (the latest 10; none of another SCENE): how many can be.");
    NumberedSparks x = told(Refusals.TEXT);
    for (int n = 1; n <= 10; n++) x.seed(n);
    for (int n = 9; n >= 0; n--) {
      due("undo()", x.undo(), n);
      due("count(5)", x.count(5), n);
    }
    due("undo() of an eleventh", x.undo(), -1);
    for (int n = 1; n <= 11; n++) x.seed(n);
    for (int n = 9; n >= 0; n--) due("undo()", x.undo(), n);
    due("count(5)", x.count(5), 1);
    due("undo() of an eleventh", x.undo(), -1);
    due("count(5)", x.count(5), 1);
    // What did not become otherwise is none, nor what was refused.
    NumberedSparks y = told(Refusals.TEXT);
    y.seed(3);
    y.sets(1, 0, 4);
    y.seed(3);
    y.sets(0, 4, 1);
    y.sets(0, 4, 10);
    y.seed(1000000);
    y.sets(2, 0, 1);
    due("undo()", y.undo(), 0);
    due("count(5)", y.count(5), 0);
    due("undo()", y.undo(), -1);
    // Taken back, it is no change of its own: behind it others can come.
    y.seed(1);
    y.seed(2);
    due("undo()", y.undo(), 1);
    y.sets(0, 0, 9);
    due("undo()", y.undo(), 1);
    due("kind(0, 0)", y.kind(0, 0), 3);
    due("count(5)", y.count(5), 1);
    // Of another scene, though it is told with the same text; a fault leaves them.
    feedText(y, "world");
    y.scene();
    y.seed(6);
    due("undo() behind a fault", y.undo(), 1);
    feedText(y, Refusals.TEXT);
    y.scene();
    due("undo() of another scene's", y.undo(), -1);
    due("count(5)", y.count(5), 0);
    // The frame of the tick that was asked for last is not kept.
    NumberedSparks z = told(STILL);
    z.sets(0, 0, 1);
    due("many(7, -1)", z.many(7, -1), 2);
    due("undo()", z.undo(), 0);
    due("many(7, -1)", z.many(7, -1), 4);
    doc.says("NONE: none; -2: there is no SCENE.");
    due("undo()", told(WORLD).undo(), -1);
    NumberedSparks none = new NumberedSparks();
    due("undo() without", none.undo(), -2);
    none.seed(5);
    none.scene();
    due("undo() without", none.undo(), -2);
  }

  static void promise49() {
    doc.says("the letter of its KIND (a .. e), its SOURCE, its number, then for each generation ahead of it . and the number of the child; a blank; BORN, -, ENDS; "
      + "for each of x, y, z a blank and where it begins: how many bytes.");
    String kinds = "kind life 1;kind life 2 childs 2 of 0;kind life 3 childs 2 of 1;kind life 4;kind life 5;";
    NumberedSparks x = told("world 40 40 40;" + kinds + "source 4 at 0 39 13 from 0 every 1 until 0;source 3 at 1 2 3 from 9999 every 1;source 0 at 0 0 0 from 99 every 1;source 2 at 12 1 0 from 0 every 1 burst 5;");
    String[] want = {"e00 0-5 4 316 108", "d10 9999-10003 12 20 28", "a20 99-100 4 4 4", "c30 0-3 100 12 4"};
    for (int s = 0; s < 4; s++) {
      due("tell(" + 256 * s + ")", x.tell(256 * s), want[s].length());
      dueOut(x, want[s]);
    }
    int[] paths = {16, 32, 17, 18, 33, 34};
    String[] lines = {"b349999.0 10002-10004 100 12 4", "b349999.1 10002-10004 100 12 4", "a349999.0.0 10004-10005 100 12 4", "a349999.0.1 10004-10005 100 12 4", "a349999.1.0 10004-10005 100 12 4",
      "a349999.1.1 10004-10005 100 12 4"};
    for (int i = 0; i < paths.length; i++) {
      NumberedSparks y = told("world 40 40 40;" + kinds + "source 0 at 0 0 0 from 0 every 1;".repeat(3) + "source 2 at 12 1 0 from 0 every 1 burst 5;");
      int code = 256 * (4 * 49999 + 3) + paths[i];
      due("tell(" + code + ")", y.tell(code), lines[i].length());
      dueOut(y, lines[i]);
    }
    // Each count of digits, and where a child begins at 0: y 4, 4, 8 goes round.
    int[][] numbers = {{9, 9}, {10, 10}, {99, 99}, {100, 100}, {999, 999}, {1000, 1000}, {9999, 9999}};
    for (int[] w : numbers) {
      NumberedSparks y = told(WORLD + KIND + "source 0 at 0 0 0 from 0 every 1;");
      y.tell(1024 * w[0]);
      dueOut(y, "a0" + w[0] + " " + w[1] + "-" + (w[1] + 1) + " 4 4 4");
    }
    NumberedSparks zero = told(WORLD + "kind life 1;kind life 3 falls 4 childs 1 of 0;source 1 at 0 0 0 from 0 every 1 until 0;");
    zero.tell(16);
    dueOut(zero, "a00.0 3-4 4 0 4");
    doc.says("-2 (OUT stays).");
    outStays("tell");
  }

  // ---- frames once more ----

  static void promise50() {
    doc.says("How many SPARKS of a colour (0 .. 7) are there in a TICK. -2.");
    NumberedSparks x = told(WORLD + "seed 2;kind life 40;source 0 at 0 0 0 from 0 every 1 burst 5 until 39;");
    int[] want = new int[8];
    for (int k = 0; k < 200; k++) want[draw(2, 1024 * k, 5, 8)]++;
    for (int colour = 0; colour < 8; colour++) {
      due("colours(39, " + colour + ")", x.colours(39, colour), want[colour]);
      due("colours(79, " + colour + ")", x.colours(79, colour), 0);
    }
    for (int colour : new int[] {-1, 8, MIN, MAX}) due("colours(39, " + colour + ")", x.colours(39, colour), -2);
    refusals("colours");
  }

  static void promise51() {
    doc.says("-2.");
    due("columns(0) of none", told(WORLD).columns(0), 0);
    // Two depths of one column are one column.
    NumberedSparks x = told("world 40 40 2;kind life 1;source 0 at 0 0 0 from 0 every 1;source 0 at 0 0 1 from 0 every 1;source 0 at 39 39 0 from 0 every 1;source 0 at 39 0 1 from 0 every 1 burst 5;");
    due("columns(0)", x.columns(0), 3);
    refusals("columns");
  }

  static void promise52() {
    doc.says("The CODE of the k-th SPARK (from 0) of a column in a TICK, the one on top first, each next one that which would be on top without those ahead. NONE: not so many; -2 (k below 0, too).");
    NumberedSparks x = told(DEPTH);
    int[] want = {2304, 1280, 256, 0};
    for (int k = 0; k < 4; k++) due("below(2, 0, 0, " + k + ")", x.below(2, 0, 0, k), want[k]);
    for (int k : new int[] {4, 5, 9, MAX}) due("below(2, 0, 0, " + k + ")", x.below(2, 0, 0, k), -1);
    for (int k : new int[] {-1, -2, MIN}) due("below(2, 0, 0, " + k + ")", x.below(2, 0, 0, k), -2);
    due("below(2, 1, 0, 0)", x.below(2, 1, 0, 0), -1);
    due("below(2, 1, 0, -1)", x.below(2, 1, 0, -1), -2);
    due("below(11, 0, 0, 0)", x.below(11, 0, 0, 0), -1);
    refusals("below");
  }

  static void promise53() {
    doc.says("The first TICK from a tick on in which one of a SOURCE's ROOTS' own SPARKS is BORN. NONE: none is; -2.");
    NumberedSparks x = told(STILL);
    int[][] want = {{0, 5}, {4, 5}, {5, 5}, {6, 7}, {7, 7}, {8, -1}, {30000, -1}};
    for (int[] w : want) due("next(0, " + w[0] + ")", x.next(0, w[0]), w[1]);
    due("next(0, 0) of none", told(WORLD + KIND + "source 0 at 0 0 0 from 9 every 1 until 8;").next(0, 0), -1);
    due("next(0, 0)", told(WORLD + KIND + "source 0 at 0 0 0 from 0 every 1;").next(0, 0), 0);
    NumberedSparks late = told(WORLD + KIND + "source 0 at 0 0 0 from 9999 every 1 jitter 20;");
    int born = 9999 + draw(0, 0, 0, 21);
    due("next(0, " + born + ")", late.next(0, born), born);
    due("next(0, " + (born + 1) + ")", late.next(0, born + 1), -1);
    due("next(0, 0)", late.next(0, 0), born);
    refusals("next");
  }

  static void promise54() {
    doc.says("In TICKS from a to below b (0 .. 30001, b 1 to 2000 above a) the longest row of TICKS in which none of a SOURCE's ROOTS' own SPARKS is BORN, "
      + "what 0: how many, 1: the first one (of like rows the first; NONE, if there is none). -2.");
    // Births in 10, 14, 18: rows of 3 between.
    NumberedSparks x = told(WORLD + "kind life 1;source 0 at 0 0 0 from 10 every 4 until 18;");
    int[][] want = {{10, 19, 3, 11}, {10, 11, 0, -1}, {9, 10, 1, 9}, {9, 11, 1, 9}, {10, 12, 1, 11}, {12, 17, 2, 12}, {12, 18, 3, 15}, {13, 18, 3, 15}, {13, 17, 2, 15}, {0, 2000, 1981, 19}, {0, 10, 10, 0},
      {0, 29, 10, 0}, {0, 30, 11, 19}, {19, 2019, 2000, 19}, {18, 2018, 1999, 19}, {28001, 30001, 2000, 28001}, {30000, 30001, 1, 30000}};
    for (int[] w : want)
      for (int what = 0; what < 2; what++) due("lull(0, " + w[0] + ", " + w[1] + ", " + what + ")", x.lull(0, w[0], w[1], what), w[2 + what]);
    NumberedSparks always = told(WORLD + KIND + "source 0 at 0 0 0 from 0 every 1 burst 5;");
    due("lull(0, 8000, 10000, 0)", always.lull(0, 8000, 10000, 0), 0);
    due("lull(0, 8000, 10000, 1)", always.lull(0, 8000, 10000, 1), -1);
    due("lull(0, 8001, 10001, 0)", always.lull(0, 8001, 10001, 0), 1);
    due("lull(0, 8001, 10001, 1)", always.lull(0, 8001, 10001, 1), 10000);
    jitteredLulls();
    // Another source's births do not end a row.
    NumberedSparks two = told(WORLD + KIND + "source 0 at 0 0 0 from 5 every 1 until 5;source 0 at 0 0 0 from 0 every 1;");
    due("lull(0, 0, 11, 0)", two.lull(0, 0, 11, 0), 5);
    due("lull(0, 0, 11, 1)", two.lull(0, 0, 11, 1), 0);
    due("lull(1, 0, 11, 0)", two.lull(1, 0, 11, 0), 0);
    Refusals.testWindows("lull", 1, 2000, (y, a, b) -> y.lull(0, a, b, 0));
    refusals("lull");
  }

  /** With jitter, births that were planned ahead of the window come in it, and planned ones behind it: held against births(). */
  private static void jitteredLulls() {
    for (int seed = 0; seed < 6; seed++) {
      String text = WORLD + "seed " + seed + ";" + KIND + "source 0 at 0 0 0 from 20 every 9 burst 2 until 90 jitter 20;";
      NumberedSparks x = told(text);
      boolean[] born = new boolean[130];
      for (int t = 0; t < 130; t++) born[t] = x.births(0, t, t + 1) > 0;
      NumberedSparks y = told(text);
      for (int a = 10; a < 110; a += 7)
        for (int b = a + 1; b < 125; b += 11) {
          int longest = 0, first = -1;
          for (int t = a; t < b; t++) {
            int row = 0;
            while (t + row < b && !born[t + row]) row++;
            if (row > longest) { longest = row; first = t; }
          }
          due("lull(0, " + a + ", " + b + ", 0)", y.lull(0, a, b, 0), longest);
          due("lull(0, " + a + ", " + b + ", 1)", y.lull(0, a, b, 1), first);
        }
    }
  }

  static void promise55() {
    doc.says("How many SPARKS of a TICK are children of one and the same parent with another one that is there, too. -2.");
    // Roots of one tick are no twins, nor are cousins, nor an only child.
    due("twins(0) of a burst", told(WORLD + "kind life 9;source 0 at 0 0 0 from 0 every 1 burst 5;").twins(0), 0);
    NumberedSparks cousins = told(WORLD + "kind life 9;kind life 1 childs 1 of 0;kind life 1 childs 2 of 1;source 2 at 0 0 0 from 0 every 1 until 0;");
    int[] want = {0, 2, 0, 0};
    for (int t = 0; t < 4; t++) due("twins(" + t + ")", cousins.twins(t), want[t]);
    due("many(2, -1)", cousins.many(2, -1), 2);
    // Four grandchildren of two parents are all twins; of 5 bursts all.
    NumberedSparks all = told(WORLD + "kind life 9;kind life 1 childs 2 of 0;kind life 1 childs 2 of 1;source 2 at 0 0 0 from 0 every 1 burst 5 until 0;");
    int[] many = {0, 10, 20, 20};
    for (int t = 0; t < 4; t++) due("twins(" + t + ")", all.twins(t), many[t]);
    due("twins(0) of none", told(WORLD).twins(0), 0);
    // A child and its nephews, one twin gone: it is a twin no more.
    int apart = 0;
    for (int seed = 0; seed < 20; seed++) {
      NumberedSparks x = told(WORLD + "seed " + seed + ";kind life 9;kind life 1 vary 5 childs 2 of 0;kind life 1 childs 2 of 1;source 2 at 0 0 0 from 0 every 1 until 0;");
      for (int t = 0; t < 12; t++) {
        int due = 0;
        for (int[] pair : new int[][] {{16, 32}, {17, 18}, {33, 34}}) if (x.place(pair[0], t, 0) >= 0 && x.place(pair[1], t, 0) >= 0) due += 2;
        due("twins(" + t + ") of seed " + seed, x.twins(t), due);
        if (x.place(16, t, 0) >= 0 != x.place(32, t, 0) >= 0) apart++;
      }
    }
    due("some were alone", apart > 0 ? 1 : 0, 1);
    refusals("twins");
  }
}
