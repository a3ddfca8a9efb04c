import java.util.Arrays;

/** Each promise of the document, with answers worked out by hand from its words. */
public final class PromiseTest extends Checks {
  public static void main(String[] args) throws Exception {
    for (int promise = 1; promise <= 55; promise++) {
      where = "promise " + promise;
      PromiseTest.class.getDeclaredMethod("promise" + promise).invoke(null);
    }
    finish();
  }

  // ---- the text ----

  static void promise1() {
    NumberedSparks x = new NumberedSparks();
    due("is(0)", x.is(0), -2);
    for (int what = 0; what < 8; what++) due("count(" + what + ")", x.count(what), 0);
    due("octet(0)", x.octet(0), -1);
    due("many(0, -1)", x.many(0, -1), -2);
  }

  static void promise2() {
    NumberedSparks x = new NumberedSparks();
    for (int i = 1; i <= 25; i++) due("feed", x.feed(0x20202020, 0x20202020, 0x20202020, 0x20202020, 0x20202020), 20 * i);
    due("feed of 520", x.feed(1, 2, 3, 4, 5), -1);
    due("count(6)", x.count(6), 500);
    x.end(481);
    due("feed of 501", x.feed(1, 2, 3, 4, 5), -1);
    x.end(480);
    due("feed of 500", x.feed(1, 2, 3, 4, 5), 500);
    NumberedSparks y = new NumberedSparks();
    // "worl" "d 1 " "2\n3;" and two bytes above 127.
    y.feed(0x776f726c, 0x64203120, 0x320a333b, 0xff80ffff, -1);
    y.end(12);
    due("scene()", y.scene(), 1);
    due("count(2)", y.count(2), 3);
    y.feed(0x776f726c, 0x64203120, 0x320a333b, 0xff80ffff, -1);
    due("scene() with bytes behind", y.scene(), -4);
    due("fault(1)", y.fault(1), 12);
  }

  static void promise3() {
    NumberedSparks x = new NumberedSparks();
    due("end(0)", x.end(0), 0);
    due("end(1)", x.end(1), -1);
    x.feed(0, 0, 0, 0, 0);
    due("end(21)", x.end(21), -1);
    due("end(-1)", x.end(-1), -1);
    due("count(6)", x.count(6), 20);
    due("end(20)", x.end(20), 20);
    due("end(7)", x.end(7), 7);
    due("count(6)", x.count(6), 7);
    due("end(8)", x.end(8), -1);
    due("feed", x.feed(0, 0, 0, 0, 0), 27);
  }

  static void promise4() {
    NumberedSparks x = told(STILL);
    due("count(6)", x.count(6), 0);
    x.seed(77);
    feedText(x, "world 4 3;");
    due("scene() with a fault", x.scene(), -4);
    due("count(6)", x.count(6), 0);
    due("count(0)", x.count(0), 4);
    due("count(5)", x.count(5), 77);
    due("many(7, -1)", x.many(7, -1), 4);
    due("undo()", x.undo(), 0);
    feedText(x, "world 1 2 3;seed 9;");
    due("scene()", x.scene(), 2);
    due("count(4)", x.count(4), 0);
    due("many(7, -1)", x.many(7, -1), 0);
    due("scene() of nothing", x.scene(), -4);
    due("count(1)", x.count(1), 2);
    told("world 1 1 1;" + "kind life 1;".repeat(5) + "source 0 at 0 0 0 from 0 every 1;".repeat(4) + "seed 0;");
    told("world1 1 1;kind life40vary20speed20falls-9size9ends;kind\nlife 1 childs1of0;source1at0 0 0from0every1burst1until0jitter0;");
    told("world 0040 40 40;kind life 1 falls 9 bounce;kind life 1 wrap childs 2 of 0;source 1 at 39 39 39 from 9999 every 99 burst 5 until 9999 jitter 20;seed 999999;");
  }

  static void promise5() {
    NumberedSparks x = new NumberedSparks();
    due("fault(0)", x.fault(0), 0);
    due("fault(1)", x.fault(1), -1);
    due("fault(2)", x.fault(2), -1);
    due("fault(-1)", x.fault(-1), -1);
    faulty("", 1, 0);
    faulty("  \n ", 1, 4);
    faulty("seed 1;world 1 1 1;", 1, 0);
    faulty("world 1 1 1", 1, 11);
    faulty("world 1 1 1  ", 1, 13);
    faulty("world 1 1 1;;", 1, 12);
    faulty("world 1 1 1;seed;", 1, 16);
    faulty("world 1 1 1;seed -1;", 1, 17);
    faulty("world 1 1 1;world 1 1 1;", 1, 12);
    faulty("world 1 1 1;Seed 1;", 1, 12);
    faulty("world 1 1 1;seed\t1;", 1, 16);
    faulty("world 1 1 1;seeds 1;", 1, 12);
    faulty("world 1 1 1;need 1;", 1, 12);
    faulty("world 1 1 1;sees 1;", 1, 12);
    faulty("world 1 1 1;seed 1 ;x", 1, 20);
    faulty("world 0 1 1;", 2, 6);
    faulty("world 1 41 1;", 2, 8);
    faulty("world 1 1 99999999999999999999999;", 2, 10);
    faulty("world 1 1 4294967297;", 2, 10);
    faulty("world 41 1 1 1", 2, 6);
    faulty("world 1 1 1;seed 1000000;", 2, 17);
    faulty("world 1 1 1;seed 1;seed 1;", 3, 19);
    faulty("world 1 1 1;seed 1;kind life 1;seed", 3, 31);
    faultyKinds();
    faultySources();
    NumberedSparks y = new NumberedSparks();
    y.scene();
    feedText(y, "world 1 1 1;");
    y.scene();
    due("fault(0) behind a good one", y.fault(0), 0);
    due("fault(1) behind a good one", y.fault(1), -1);
  }

  private static void faultyKinds() {
    String world = "world 1 1 1;";
    String[] bad = {"life 0", "life 41", "life 1 vary 21", "life 1 speed 21", "life 1 falls 10", "life 1 falls - 10", "life 1 size 0", "life 1 size 10",
      "life 1 childs 0 of 0", "life 1 childs 3 of 0"};
    int[] at = {5, 5, 12, 13, 13, 15, 12, 12, 14, 14};
    for (int i = 0; i < bad.length; i++) faulty(world + "kind " + bad[i] + ";", 2, 12 + 5 + at[i]);
    faulty(world + "kind life 1 childs 1 of 0;", 2, 36);
    faulty(world + "kind life 1;kind life 1 childs 1 of 1;", 2, 48);
    faulty(world + "kind;", 1, 16);
    faulty(world + "kind vary 1;", 1, 17);
    faulty(world + "kind life 1 speed 1 vary 1;", 1, 32);
    faulty(world + "kind life 1 falls - - 1;", 1, 32);
    faulty(world + "kind life 1 falls ; 1;", 1, 30);
    faulty(world + "kind life 1 falls 45 1;", 2, 30);
    faulty(world + "kind life 1 bounce wrap;", 1, 31);
    faulty(world + "kind life 1 size 1 size 1;", 1, 31);
    faulty(world + "kind life 1;kind life 1 childs 1;", 1, 44);
    faulty(world + "kind life 1;".repeat(5) + "kind", 3, 72);
  }

  private static void faultySources() {
    String ahead = "world 3 4 5;kind life 1;";
    faulty("world 1 1 1;source 0 at 0 0 0 from 0 every 1;", 2, 19);
    faulty(ahead + "source 1 at 0 0 0 from 0 every 1;", 2, 31);
    faulty(ahead + "source 0 at 3 0 0 from 0 every 1;", 2, 36);
    faulty(ahead + "source 0 at 2 4 0 from 0 every 1;", 2, 38);
    faulty(ahead + "source 0 at 2 3 5 from 0 every 1;", 2, 40);
    faulty(ahead + "source 0 at 2 3 4 from 10000 every 1;", 2, 47);
    faulty(ahead + "source 0 at 2 3 4 from 0 every 0;", 2, 55);
    faulty(ahead + "source 0 at 2 3 4 from 0 every 100;", 2, 55);
    faulty(ahead + "source 0 at 2 3 4 from 0 every 1 burst 0;", 2, 63);
    faulty(ahead + "source 0 at 2 3 4 from 0 every 1 burst 6;", 2, 63);
    faulty(ahead + "source 0 at 2 3 4 from 0 every 1 until 10000;", 2, 63);
    faulty(ahead + "source 0 at 2 3 4 from 0 every 1 jitter 21;", 2, 64);
    faulty(ahead + "source 0 at 2 3 4 from 0 every 1 until 1 burst 1;", 1, 65);
    faulty(ahead + "source 0 at 2 3 4 every 1;", 1, 42);
    faulty(ahead + "source 0 at 2 3 4 from 0;", 1, 48);
    faulty(ahead + "source 0 at 0 0 0 from 0 every 9;".repeat(4) + "source 9", 3, 24 + 4 * 33);
  }

  static void promise6() {
    NumberedSparks x = told("world 4 3 2;seed 17;kind life 1;kind life 2;source 1 at 0 0 0 from 0 every 9;");
    int[] want = {4, 3, 2, 2, 1, 17, 0, 0};
    for (int what = 0; what < 8; what++) due("count(" + what + ")", x.count(what), want[what]);
    x.feed(0, 0, 0, 0, 0);
    x.picture(0);
    due("count(6)", x.count(6), 20);
    due("count(7)", x.count(7), 15);
    due("count(8)", x.count(8), -1);
    due("count(-1)", x.count(-1), -1);
    due("count(5)", told("world 1 1 1;").count(5), 0);
  }

  static void promise7() {
    NumberedSparks x = told("world 1 1 1;kind life 40 vary 20 speed 19 falls -9 size 9 bounce;kind life 2 falls 3 ends childs 2 of 0;kind life 1;");
    int[][] want = {{40, 20, 19, -9, 9, 1, 0, -1}, {2, 0, 0, 3, 1, 2, 2, 0}, {1, 0, 0, 0, 1, 0, 0, -1}};
    for (int k = 0; k < 3; k++)
      for (int what = 0; what < 8; what++) due("kind(" + k + ", " + what + ")", x.kind(k, what), want[k][what]);
    due("kind(3, 0)", x.kind(3, 0), -99);
    due("kind(-1, 0)", x.kind(-1, 0), -99);
    due("kind(0, 8)", x.kind(0, 8), -99);
    due("kind(1, -1)", x.kind(1, -1), -99);
    due("kind(0, 0) without", new NumberedSparks().kind(0, 0), -99);
  }

  static void promise8() {
    NumberedSparks x = told("world 9 8 7;kind life 1;kind life 1;source 1 at 8 7 6 from 10 every 4 burst 3 until 18 jitter 5;"
      + "source 0 at 1 2 3 from 0 every 1 burst 5;source 0 at 0 0 0 from 9 every 3 until 8;source 0 at 0 0 0 from 9 every 3 until 9;");
    int[][] want = {{1, 8, 7, 6, 10, 4, 3, 18, 5, 9}, {0, 1, 2, 3, 0, 1, 5, 9999, 0, 50000}, {0, 0, 0, 0, 9, 3, 1, 8, 0, 0}, {0, 0, 0, 0, 9, 3, 1, 9, 0, 1}};
    for (int s = 0; s < 4; s++)
      for (int what = 0; what < 10; what++) due("source(" + s + ", " + what + ")", x.source(s, what), want[s][what]);
    due("source(4, 0)", x.source(4, 0), -2);
    due("source(-1, 0)", x.source(-1, 0), -2);
    due("source(0, 10)", x.source(0, 10), -2);
    due("source(1, -1)", x.source(1, -1), -2);
    due("source(0, 0) without", new NumberedSparks().source(0, 0), -2);
  }

  // ---- draws and codes ----

  static void promise9() {
    NumberedSparks x = told(DRAWN);
    due("seed(0)", x.seed(0), 4711);
    due("seed(999999)", x.seed(999999), 0);
    due("seed(1000000)", x.seed(1000000), -2);
    due("seed(-1)", x.seed(-1), -2);
    due("count(5)", x.count(5), 999999);
    due("spark(0, 5)", x.spark(0, 5), 20 + draw(999999, 0, 0, 12));
    x.many(30, -1);
    x.seed(5);
    due("spark(0, 5)", x.spark(0, 5), 20 + draw(5, 0, 0, 12));
    NumberedSparks y = told(DRAWN.replace("4711", "5"));
    due("digest(30)", x.digest(30), y.digest(30));
    due("seed(0) without", new NumberedSparks().seed(0), -2);
  }

  static void promise10() {
    NumberedSparks x = told("world 1 1 1;");
    // The first numbers of the well-known generator that steps by the code's factor.
    due("mixed(1, 0)", x.mixed(1, 0), 0xE220A8397B1DCDAFL);
    due("mixed(2, 0)", x.mixed(2, 0), 0x6E789E6AA1B965F4L);
    due("mixed(3, 0)", x.mixed(3, 0), 0x06C45D188009454FL);
    due("mixed(0, 0)", x.mixed(0, 0), 0);
    x.seed(999);
    int[] some = {0, 1, 5, -1, 4096, Integer.MIN_VALUE, Integer.MAX_VALUE};
    for (int code : some)
      for (int salt : some) due("mixed(" + code + ", " + salt + ")", x.mixed(code, salt), mixed(999, code, salt));
    due("mixed(1, 0) without", new NumberedSparks().mixed(1, 0), 0);
  }

  static void promise11() {
    NumberedSparks x = told(LINE);
    for (int code = -40; code < 400; code++)
      due("is(" + code + ")", x.is(code), code == 0 || code == 16 || code == 17 || code == 18 ? 1 : 0);
    due("is(min)", x.is(Integer.MIN_VALUE), 0);
    due("is(max)", x.is(Integer.MAX_VALUE), 0);
    NumberedSparks y = told(STILL);
    due("is(3072)", y.is(3072), 1);
    due("is(4096)", y.is(4096), 0);
    due("is(256)", y.is(256), 0);
    NumberedSparks z = told("world 1 1 1;kind life 1;kind life 1 childs 2 of 0;kind life 1 childs 2 of 1;source 2 at 0 0 0 from 0 every 1 burst 5;");
    for (int path = 0; path < 256; path++)
      due("is of path " + path, z.is(1024 * 49999 + path), Arrays.asList(0, 16, 17, 18, 32, 33, 34).contains(path) ? 1 : 0);
    due("is of number 50000", z.is(1024 * 50000), 0);
    // Grandchildren have none, even of a kind that has.
    NumberedSparks deep = told("world 1 1 1;kind life 1;kind life 1 childs 2 of 0;kind life 1 childs 2 of 1;kind life 1 childs 1 of 2;source 3 at 0 0 0 from 0 every 1 until 0;");
    due("line(0, 0)", deep.line(0, 0), 4);
    due("child(17, 0)", deep.child(17, 0), -1);
  }

  static void promise12() {
    NumberedSparks x = told(LINE);
    due("child(0, 0)", x.child(0, 0), 16);
    due("child(0, 1)", x.child(0, 1), -1);
    due("child(16, 0)", x.child(16, 0), 17);
    due("child(16, 1)", x.child(16, 1), 18);
    due("child(16, 2)", x.child(16, 2), -1);
    due("child(16, -1)", x.child(16, -1), -1);
    due("child(18, 0)", x.child(18, 0), -1);
    due("child(32, 0)", x.child(32, 0), -2);
    due("child(-1, 0)", x.child(-1, 0), -2);
    due("child(-1, -1)", x.child(-1, -1), -2);
    NumberedSparks y = told(LINE.replace("childs 1 of 1", "childs 2 of 1"));
    due("child(0, 1)", y.child(0, 1), 32);
    due("child(32, 1)", y.child(32, 1), 34);
    due("child(0, 0) without", new NumberedSparks().child(0, 0), -2);
  }

  static void promise13() {
    NumberedSparks x = told(LINE.replace("until 0", "until 1"));
    due("parent(0)", x.parent(0), -1);
    due("parent(1024)", x.parent(1024), -1);
    due("parent(1040)", x.parent(1040), 1024);
    due("parent(1042)", x.parent(1042), 1040);
    due("parent(1043)", x.parent(1043), -2);
    due("parent(2048)", x.parent(2048), -2);
    due("parent(-1)", x.parent(-1), -2);
    due("parent(0) without", new NumberedSparks().parent(0), -2);
  }

  static void promise14() {
    NumberedSparks x = told(DRAWN);
    for (int k = 0; k < 42; k++) {
      int code = 1024 * k;
      int born = 20 + k / 2 * 3 + draw(4711, code, 0, 12);
      int[] want = {0, 0, k, 0, draw(4711, code, 5, 8), born, born + 10 + draw(4711, code, 1, 10),
        draw(4711, code, 2, 13) - 6, draw(4711, code, 3, 13) - 6, draw(4711, code, 4, 13) - 6};
      for (int what = 0; what < 10; what++) due("spark(" + code + ", " + what + ")", x.spark(code, what), want[what]);
    }
    due("spark(1024 * 42, 0)", x.spark(1024 * 42, 0), -99);
    due("spark(0, 10)", x.spark(0, 10), -99);
    due("spark(0, -1)", x.spark(0, -1), -99);
    due("spark(-1, 0)", x.spark(-1, 0), -99);
    NumberedSparks y = told(LINE.replace("source 2", "source 0 at 0 0 0 from 0 every 1 until 0;source 2"));
    int[][] want = {{256, 2, 1, 0, 0, 0, 1}, {272, 1, 1, 0, 1, 1, 4}, {273, 0, 1, 0, 2, 4, 6}, {274, 0, 1, 0, 2, 4, 6}};
    for (int[] w : want) {
      for (int what = 0; what < 4; what++) due("spark(" + w[0] + ", " + what + ")", y.spark(w[0], what), w[1 + what]);
      due("spark(" + w[0] + ", 5)", y.spark(w[0], 5), w[5]);
      due("spark(" + w[0] + ", 6)", y.spark(w[0], 6), w[6]);
      due("spark(" + w[0] + ", 7)", y.spark(w[0], 7), 0);
    }
    // Beyond the edge it would be in tick 4, by y 16.
    due("spark(0, 6)", told(FALL.replace("EDGE", "ends")).spark(0, 6), 4);
    due("spark(0, 6)", told(FALL.replace("EDGE", "bounce")).spark(0, 6), 6);
    // 12, 12, 10, 6, 0 is not beyond, -8 is.
    due("spark(0, 6)", told(RISE.replace("EDGE", "ends")).spark(0, 6), 5);
    due("spark(0, 0) without", new NumberedSparks().spark(0, 0), -99);
  }

  static void promise15() {
    int[][] y = {{4, 4, 6, 10, 0, 8}, {4, 4, 6, 10, 15, 7}, {12, 12, 10, 6, 0, 8}, {12, 12, 10, 6, 0, 7}};
    String[] text = {FALL.replace("EDGE", "wrap"), FALL.replace("EDGE", "bounce"), RISE.replace("EDGE", ""), RISE.replace("EDGE", "bounce")};
    for (int i = 0; i < 4; i++) {
      NumberedSparks x = told(text[i]);
      for (int tick = 0; tick < 6; tick++) {
        due("place(0, " + tick + ", 0)", x.place(0, tick, 0), 4);
        due("place(0, " + tick + ", 1)", x.place(0, tick, 1), y[i][tick]);
        due("place(0, " + tick + ", 2)", x.place(0, tick, 2), 4);
      }
      due("place(0, 6, 1)", x.place(0, 6, 1), -1);
    }
    NumberedSparks ends = told(FALL.replace("EDGE", "ends"));
    due("place(0, 3, 1)", ends.place(0, 3, 1), 10);
    due("place(0, 4, 1)", ends.place(0, 4, 1), -1);
    NumberedSparks x = told(DRAWN);
    int born = x.spark(3072, 5);
    int[] begins = {20, 28, 36};
    int[] world = {40, 48, 56};
    for (int what = 0; what < 3; what++) {
      due("place(3072, born, " + what + ")", x.place(3072, born, what), begins[what]);
      int speed = draw(4711, 3072, 2 + what, 13) - 6;
      for (int age = 1; age < 10; age++)
        due("place(3072, born + " + age + ", " + what + ")", x.place(3072, born + age, what), Math.floorMod(begins[what] + age * speed, world[what]));
    }
    due("place(3072, born - 1, 0)", x.place(3072, born - 1, 0), -1);
    for (int tick : NO_TICKS) due("place(0, " + tick + ", 0)", x.place(0, tick, 0), -2);
    due("place(0, 30000, 0)", x.place(0, 30000, 0), -1);
    due("place(0, 0, 3)", x.place(0, 0, 3), -2);
    due("place(0, 0, -1)", x.place(0, 0, -1), -2);
    due("place(1, 0, 0)", x.place(1, 0, 0), -2);
    childrenBeginWhereTheirParentWas();
    due("place(0, 0, 0) without", new NumberedSparks().place(0, 0, 0), -2);
  }

  private static void childrenBeginWhereTheirParentWas() {
    // y: 4, 7, 13, 22 goes round to 6; its last tick is 4, the child begins in 5 there.
    NumberedSparks x = told("world 2 2 2;kind life 2;kind life 5 falls 3 childs 1 of 0;source 1 at 0 0 1 from 0 every 9 until 0;");
    int[] y = {4, 4, 7, 13, 6};
    for (int tick = 0; tick < 5; tick++) due("place(0, " + tick + ", 1)", x.place(0, tick, 1), y[tick]);
    due("place(16, 4, 1)", x.place(16, 4, 1), -1);
    due("place(16, 5, 1)", x.place(16, 5, 1), 6);
    due("place(16, 5, 2)", x.place(16, 5, 2), 12);
    due("place(16, 6, 1)", x.place(16, 6, 1), 6);
  }

  static void promise16() {
    // Five ticks: 7 less 0, 0.8, 1.6, 2.4, 3.2, cut.
    NumberedSparks x = told("world 1 1 1;kind life 5 size 7;kind life 4 size 2;source 0 at 0 0 0 from 3 every 9 until 3;source 1 at 0 0 0 from 3 every 9 until 3;");
    int[] want = {-1, 7, 7, 6, 5, 4, -1};
    for (int i = 0; i < 7; i++) due("size(0, " + (2 + i) + ")", x.size(0, 2 + i), want[i]);
    int[] small = {-1, 2, 1, 1, 1, -1};
    for (int i = 0; i < 6; i++) due("size(256, " + (2 + i) + ")", x.size(256, 2 + i), small[i]);
    // By how long it is there, which the edge cuts to 4 ticks.
    NumberedSparks cut = told(FALL.replace("EDGE", "size 9 ends"));
    int[] nine = {9, 8, 7, 6, -1};
    for (int i = 0; i < 5; i++) due("size(0, " + i + ")", cut.size(0, i), nine[i]);
    for (int tick : NO_TICKS) due("size(0, " + tick + ")", x.size(0, tick), -2);
    due("size(1, 3)", x.size(1, 3), -2);
    due("size(0, 0) without", new NumberedSparks().size(0, 0), -2);
  }

  static void promise17() {
    due("edges(0)", told(FALL.replace("EDGE", "wrap")).edges(0), 1);
    due("edges(0)", told(FALL.replace("EDGE", "bounce")).edges(0), 1);
    due("edges(0)", told(FALL.replace("EDGE", "ends")).edges(0), 0);
    due("edges(0)", told(RISE.replace("EDGE", "")).edges(0), 1);
    // 4, 4, 13, 31, 58, 94 in a world of 8: 0, 0, 1, 3, 7, 11.
    NumberedSparks x = told("world 1 1 1;kind life 6 falls 9;source 0 at 0 0 0 from 0 every 9 until 0;");
    due("edges(0)", x.edges(0), 11);
    // 4, -5, -23: -1, -3 are 1 and 2 more, then -50: -7.
    NumberedSparks y = told("world 1 1 1;kind life 5 falls -9 bounce;source 0 at 0 0 0 from 0 every 9 until 0;");
    due("edges(0)", y.edges(0), 7);
    // All three ways.
    NumberedSparks z = told("world 1 1 1;seed 3;kind life 30 speed 9;source 0 at 0 0 0 from 0 every 9 until 0;");
    int often = 0;
    for (int axis = 0; axis < 3; axis++) {
      int speed = draw(3, 0, 2 + axis, 19) - 9;
      for (int age = 1; age < 30; age++) often += Math.abs(Math.floorDiv(4 + age * speed, 8) - Math.floorDiv(4 + (age - 1) * speed, 8));
    }
    due("edges(0)", z.edges(0), often);
    due("edges(1)", z.edges(1), -2);
    due("edges(0) without", new NumberedSparks().edges(0), -2);
  }

  // ---- windows ----

  static void promise18() {
    NumberedSparks x = told(DRAWN);
    int[] born = new int[42];
    for (int k = 0; k < 42; k++) born[k] = 20 + k / 2 * 3 + draw(4711, 1024 * k, 0, 12);
    for (int a = 15; a < 100; a += 4)
      for (int b = a; b < 105; b += 3) {
        int from = a, until = b;
        due("births(0, " + a + ", " + b + ")", x.births(0, a, b), Arrays.stream(born).filter(t -> t >= from && t < until).count());
      }
    due("births(0, 0, 30001)", x.births(0, 0, 30001), 42);
    due("births(0, 30001, 30001)", x.births(0, 30001, 30001), 0);
    due("births(0, 0, 30002)", x.births(0, 0, 30002), -2);
    due("births(0, -1, 5)", x.births(0, -1, 5), -2);
    due("births(0, 6, 5)", x.births(0, 6, 5), -2);
    due("births(1, 0, 5)", x.births(1, 0, 5), -2);
    due("births(-1, 0, 5)", x.births(-1, 0, 5), -2);
    due("births(0, min, max)", x.births(0, Integer.MIN_VALUE, Integer.MAX_VALUE), -2);
    // Children are not counted.
    due("births(0, 0, 9)", told(LINE).births(0, 0, 9), 1);
    due("births(0, 0, 1) without", new NumberedSparks().births(0, 0, 1), -2);
  }

  static void promise19() {
    NumberedSparks x = told(LINE);
    int[] ends = {0, 1, 0, 0, 1, 0, 2, 0};
    for (int t = 0; t < 8; t++) due("endings(" + t + ", " + (t + 1) + ")", x.endings(t, t + 1), ends[t]);
    due("endings(0, 300)", x.endings(0, 300), 4);
    due("endings(1, 6)", x.endings(1, 6), 2);
    due("endings(4, 4)", x.endings(4, 4), 0);
    due("endings(0, 301)", x.endings(0, 301), -2);
    due("endings(5, 4)", x.endings(5, 4), -2);
    due("endings(-1, 4)", x.endings(-1, 4), -2);
    due("endings(29701, 30001)", x.endings(29701, 30001), 0);
    due("endings(30000, 30002)", x.endings(30000, 30002), -2);
    due("endings(0, 1) without", new NumberedSparks().endings(0, 1), -2);
    due("endings(3, 6)", told(FALL.replace("EDGE", "ends")).endings(3, 6), 1);
  }

  static void promise20() {
    NumberedSparks x = told(DEPTH);
    int[] all = {4, 6, 9, 9, 9, 6, 4, 2, 2, 1, 1, 0};
    for (int t = 0; t < all.length; t++) due("many(" + t + ", -1)", x.many(t, -1), all[t]);
    due("many(2, 0)", x.many(2, 0), 2);
    due("many(2, 1)", x.many(2, 1), 7);
    due("many(2, 2)", x.many(2, 2), -2);
    due("many(2, -2)", x.many(2, -2), -2);
    due("many(30000, -1)", x.many(30000, -1), 0);
    for (int tick : NO_TICKS) due("many(" + tick + ", -1)", x.many(tick, -1), -2);
    due("many(0, -1) without", new NumberedSparks().many(0, -1), -2);
    NumberedSparks line = told(LINE);
    int[] kinds = {2, 1, 1, 1, 0, 0};
    for (int t = 0; t < 6; t++)
      for (int k = 0; k < 3; k++) due("many(" + t + ", " + k + ")", line.many(t, k), k != kinds[t] ? 0 : k == 0 ? 2 : 1);
  }

  // ---- frames ----

  private static final int[] IN_ORDER = {0, 256, 512, 1280, 2304, 768, 1792, 2816, 3840};

  static void promise21() {
    NumberedSparks x = told(DEPTH);
    for (int k = 0; k < 9; k++) due("drawn(2, " + k + ")", x.drawn(2, k), IN_ORDER[k]);
    due("drawn(2, 9)", x.drawn(2, 9), -1);
    due("drawn(2, max)", x.drawn(2, Integer.MAX_VALUE), -1);
    due("drawn(2, -1)", x.drawn(2, -1), -2);
    due("drawn(11, 0)", x.drawn(11, 0), -1);
    for (int tick : NO_TICKS) due("drawn(" + tick + ", 0)", x.drawn(tick, 0), -2);
    // From the deepest eighth, 319, to the foremost one.
    NumberedSparks y = told("world 1 1 40;seed 1;kind life 40 speed 20 bounce;source 0 at 0 0 39 from 0 every 1 burst 5;");
    boolean deepest = false, foremost = false;
    for (int tick = 40; tick < 48; tick++)
      for (int k = 0; k < 20; k++) {
        // One end of the frame and the other.
        for (int at : new int[] {k, 179 + k}) {
          int code = y.drawn(tick, at), next = y.drawn(tick, at + 1);
          NumberedSparks again = told("world 1 1 40;seed 1;kind life 40 speed 20 bounce;source 0 at 0 0 39 from 0 every 1 burst 5;");
          int z = again.place(code, tick, 2), nextZ = next < 0 ? -1 : again.place(next, tick, 2);
          due("drawn(" + tick + ", " + at + ") ahead of the next", z > nextZ || z == nextZ && code < next ? 1 : 0, 1);
          deepest |= z == 319;
          foremost |= z < 8;
        }
      }
    due("some lie deepest", deepest ? 1 : 0, 1);
    due("some lie foremost", foremost ? 1 : 0, 1);
    due("drawn(0, 0) without", new NumberedSparks().drawn(0, 0), -2);
  }

  static void promise22() {
    NumberedSparks x = told(DEPTH);
    int[][] at = {{4, 4, 28}, {4, 4, 12}, {12, 12, 12}, {4, 4, 12}, {4, 4, 12}, {20, 4, 4}, {20, 4, 4}, {20, 4, 4}, {20, 4, 4}};
    long n = 17;
    for (int i = 0; i < 9; i++) {
      n = 31 * n + IN_ORDER[i];
      for (int v : at[i]) n = 31 * n + v;
    }
    due("digest(2)", x.digest(2), n);
    due("digest(11)", x.digest(11), 17);
    due("digest(30000)", x.digest(30000), 17);
    for (int tick : NO_TICKS) due("digest(" + tick + ")", x.digest(tick), 0);
    due("digest(0) without", new NumberedSparks().digest(0), 0);
  }

  private static void wrongColumns(NumberedSparks x, java.util.function.IntBinaryOperator call) {
    due("column (3, 0)", call.applyAsInt(3, 0), -2);
    due("column (0, 2)", call.applyAsInt(0, 2), -2);
    due("column (-1, 0)", call.applyAsInt(-1, 0), -2);
    due("column (0, -1)", call.applyAsInt(0, -1), -2);
  }

  static void promise23() {
    NumberedSparks x = told(DEPTH);
    int[][] want = {{4, 0, 4}, {0, 1, 0}};
    for (int y = 0; y < 2; y++)
      for (int c = 0; c < 3; c++) due("inColumn(2, " + c + ", " + y + ")", x.inColumn(2, c, y), want[y][c]);
    wrongColumns(x, (a, b) -> x.inColumn(2, a, b));
    for (int tick : NO_TICKS) due("inColumn(" + tick + ", 0, 0)", x.inColumn(tick, 0, 0), -2);
    due("inColumn(0, 0, 0) without", new NumberedSparks().inColumn(0, 0, 0), -2);
  }

  static void promise24() {
    NumberedSparks x = told(DEPTH);
    due("top(2, 0, 0)", x.top(2, 0, 0), 2304);
    due("top(5, 0, 0)", x.top(5, 0, 0), 0);
    due("top(2, 1, 1)", x.top(2, 1, 1), 512);
    due("top(2, 2, 0)", x.top(2, 2, 0), 3840);
    due("top(1, 2, 0)", x.top(1, 2, 0), 1792);
    due("top(2, 1, 0)", x.top(2, 1, 0), -1);
    wrongColumns(x, (a, b) -> x.top(2, a, b));
    for (int tick : NO_TICKS) due("top(" + tick + ", 0, 0)", x.top(tick, 0, 0), -2);
    due("top(0, 0, 0) without", new NumberedSparks().top(0, 0, 0), -2);
  }

  static void promise25() {
    NumberedSparks x = told(DEPTH);
    int[][] want = {{2, 0, 0, 4}, {1, 0, 0, 4}, {5, 2, 0, 4}, {7, 0, 0, 1}, {9, 1, 1, 1}, {11, -1, -1, -1}};
    for (int[] w : want)
      for (int what = 0; what < 3; what++) due("fullest(" + w[0] + ", " + what + ")", x.fullest(w[0], what), w[1 + what]);
    // Of like ones the least y comes ahead of the least x.
    NumberedSparks y = told("world 2 2 1;kind life 1;source 0 at 0 1 0 from 0 every 1 until 0;source 0 at 1 0 0 from 0 every 1 until 0;");
    due("fullest(0, 0)", y.fullest(0, 0), 1);
    due("fullest(0, 1)", y.fullest(0, 1), 0);
    due("fullest(2, 3)", x.fullest(2, 3), -2);
    due("fullest(11, -1)", x.fullest(11, -1), -2);
    for (int tick : NO_TICKS) due("fullest(" + tick + ", 0)", x.fullest(tick, 0), -2);
    due("fullest(0, 0) without", new NumberedSparks().fullest(0, 0), -2);
  }

  static void promise26() {
    NumberedSparks x = told(DEPTH);
    due("nearest(2, 0, 0, 1)", x.nearest(2, 0, 0, 1), 256);
    due("nearest(2, 0, 0, 3)", x.nearest(2, 0, 0, 3), 0);
    due("nearest(2, 2, 1, 0)", x.nearest(2, 2, 1, 0), 768);
    due("nearest(2, 1, 1, 3)", x.nearest(2, 1, 1, 3), 0);
    due("nearest(2, 2, 1, 2)", x.nearest(2, 2, 1, 2), 512);
    due("nearest(11, 0, 0, 0)", x.nearest(11, 0, 0, 0), -1);
    due("nearest(2, 0, 0, 4)", x.nearest(2, 0, 0, 4), -2);
    due("nearest(2, 0, 0, -1)", x.nearest(2, 0, 0, -1), -2);
    wrongColumns(x, (a, b) -> x.nearest(2, a, b, 0));
    for (int tick : NO_TICKS) due("nearest(" + tick + ", 0, 0, 0)", x.nearest(tick, 0, 0, 0), -2);
    due("nearest(0, 0, 0, 0) without", new NumberedSparks().nearest(0, 0, 0, 0), -2);
  }

  static void promise27() {
    NumberedSparks x = told(DEPTH);
    long[] want = {3, 4, 9, 9, 9, 6, 1, 0, 0};
    for (int t = 0; t < want.length; t++) due("twos(" + t + ")", x.twos(t), want[t]);
    for (int tick : NO_TICKS) due("twos(" + tick + ")", x.twos(tick), -2);
    due("twos(0) without", new NumberedSparks().twos(0), -2);
  }

  static void promise28() {
    NumberedSparks x = told("world 2 2 2;kind life 6 falls 2;source 0 at 0 0 0 from 50 every 9 until 50;");
    // y 10 in tick 53, back to 0 in 54, 8 in 55.
    due("firstIn(0, 0, 1)", x.firstIn(0, 0, 1), 53);
    due("firstIn(53, 0, 1)", x.firstIn(53, 0, 1), 53);
    due("firstIn(54, 0, 1)", x.firstIn(54, 0, 1), 55);
    due("firstIn(56, 0, 1)", x.firstIn(56, 0, 1), -1);
    due("firstIn(0, 1, 0)", x.firstIn(0, 1, 0), -1);
    due("firstIn(0, 2, 0)", x.firstIn(0, 2, 0), -2);
    due("firstIn(0, 0, 2)", x.firstIn(0, 0, 2), -2);
    due("firstIn(0, -1, 0)", x.firstIn(0, -1, 0), -2);
    NumberedSparks y = told("world 1 1 1;kind life 1;source 0 at 0 0 0 from 199 every 9 until 199;");
    due("firstIn(100, 0, 0)", y.firstIn(100, 0, 0), 199);
    due("firstIn(99, 0, 0)", y.firstIn(99, 0, 0), -1);
    due("firstIn(30000, 0, 0)", y.firstIn(30000, 0, 0), -1);
    for (int tick : NO_TICKS) due("firstIn(" + tick + ", 0, 0)", y.firstIn(tick, 0, 0), -2);
    due("firstIn(0, 0, 0) without", new NumberedSparks().firstIn(0, 0, 0), -2);
  }

  static void promise29() {
    NumberedSparks x = told(DEPTH);
    due("peak(0, 60, 0)", x.peak(0, 60, 0), 2);
    due("peak(0, 60, 1)", x.peak(0, 60, 1), 9);
    due("peak(3, 60, 0)", x.peak(3, 60, 0), 3);
    due("peak(0, 2, 0)", x.peak(0, 2, 0), 1);
    due("peak(6, 9, 1)", x.peak(6, 9, 1), 4);
    due("peak(20, 40, 0)", x.peak(20, 40, 0), 20);
    due("peak(20, 40, 1)", x.peak(20, 40, 1), 0);
    due("peak(0, 61, 0)", x.peak(0, 61, 0), -2);
    due("peak(4, 4, 0)", x.peak(4, 4, 0), -2);
    due("peak(4, 3, 0)", x.peak(4, 3, 0), -2);
    due("peak(-1, 3, 0)", x.peak(-1, 3, 0), -2);
    due("peak(30000, 30001, 0)", x.peak(30000, 30001, 0), 30000);
    due("peak(30000, 30002, 0)", x.peak(30000, 30002, 0), -2);
    due("peak(0, 3, 2)", x.peak(0, 3, 2), -2);
    due("peak(0, 3, -1)", x.peak(0, 3, -1), -2);
    due("peak(0, 1, 0) without", new NumberedSparks().peak(0, 1, 0), -2);
  }

  static void promise30() {
    NumberedSparks x = told(LINE.replace("until 0", "until 1"));
    int[][] want = {{0, 4, 6}, {16, 3, 6}, {17, 1, 6}, {18, 1, 6}, {1024, 4, 7}, {1040, 3, 7}};
    for (int[] w : want)
      for (int what = 0; what < 2; what++) due("line(" + w[0] + ", " + what + ")", x.line(w[0], what), w[1 + what]);
    // Two children that end in their own ticks.
    NumberedSparks y = told("world 1 1 1;seed 2;kind life 1 vary 20;kind life 1 vary 20 childs 2 of 0;kind life 1 childs 2 of 1;source 2 at 0 0 0 from 0 every 1 until 0;");
    int[] ends = new int[2];
    for (int c = 0; c < 2; c++) {
      int code = 16 * (1 + c);
      int end = 1 + 1 + draw(2, code, 1, 21);
      ends[c] = Math.max(end + 1 + draw(2, code + 1, 1, 21), end + 1 + draw(2, code + 2, 1, 21));
      due("line(" + code + ", 1)", y.line(code, 1), ends[c]);
    }
    due("line(0, 1)", y.line(0, 1), Math.max(ends[0], ends[1]));
    due("line(0, 0)", y.line(0, 0), 7);
    due("line(0, 2)", x.line(0, 2), -2);
    due("line(0, -1)", x.line(0, -1), -2);
    due("line(32, 0)", x.line(32, 0), -2);
    due("line(0, 0) without", new NumberedSparks().line(0, 0), -2);
  }

  static void promise31() {
    NumberedSparks x = told(DEPTH);
    int[][] want = {{2, 0, 0, 0, 2, 1, 3}, {0, 0, 0, 1, 0, 0, 3}, {9, 1, 1, 1, 1, 1, 1}, {11, -1, -1, -1, -1, -1, -1}};
    for (int[] w : want)
      for (int what = 0; what < 6; what++) due("box(" + w[0] + ", " + what + ")", x.box(w[0], what), w[1 + what]);
    due("box(11, 6)", x.box(11, 6), -2);
    due("box(2, -1)", x.box(2, -1), -2);
    for (int tick : NO_TICKS) due("box(" + tick + ", 0)", x.box(tick, 0), -2);
    due("box(0, 0) without", new NumberedSparks().box(0, 0), -2);
  }

  static void promise32() {
    NumberedSparks x = told(DEPTH);
    // 108, 44, 92 by 9.
    int[] want = {12, 4, 10};
    for (int what = 0; what < 3; what++) due("middle(2, " + what + ")", x.middle(2, what), want[what]);
    due("middle(9, 1)", x.middle(9, 1), 12);
    due("middle(11, 0)", x.middle(11, 0), -1);
    due("middle(11, 3)", x.middle(11, 3), -2);
    due("middle(2, -1)", x.middle(2, -1), -2);
    for (int tick : NO_TICKS) due("middle(" + tick + ", 0)", x.middle(tick, 0), -2);
    due("middle(0, 0) without", new NumberedSparks().middle(0, 0), -2);
  }

  // ---- pictures ----

  static void promise33() {
    NumberedSparks x = told(DEPTH);
    String want = draw(0, 2304, 5, 8) + "." + draw(0, 3840, 5, 8) + "\n." + draw(0, 512, 5, 8) + ".\n";
    due("picture(2)", x.picture(2), 8);
    dueOut(x, want);
    for (int tick : NO_TICKS) due("picture(" + tick + ")", x.picture(tick), -2);
    dueOut(x, want);
    due("picture(11)", x.picture(11), 8);
    dueOut(x, "...\n...\n");
    due("picture(0)", told("world 40 40 1;").picture(0), 1640);
    due("picture(0) without", new NumberedSparks().picture(0), -2);
  }

  static void promise34() {
    NumberedSparks x = told(LINE);
    due("octet(0)", x.octet(0), -1);
    x.tell(18);
    due("octet(0)", x.octet(0), 'a');
    due("octet(19)", x.octet(19), '2');
    due("octet(20)", x.octet(20), -1);
    due("octet(-1)", x.octet(-1), -1);
    due("octet(max)", x.octet(Integer.MAX_VALUE), -1);
    feedText(x, "world 1 1 1;");
    x.scene();
    due("count(7)", x.count(7), 20);
    due("octet(0) behind a new text", x.octet(0), 'a');
    due("tell(18)", x.tell(18), -2);
    due("octet(0) behind a refused call", x.octet(0), 'a');
    x.picture(0);
    dueOut(x, ".\n");
  }

  static void promise39() {
    NumberedSparks x = told(DEPTH);
    String[] want = {"..4\n...\n", "3..\n.1.\n", "...\n...\n", "1..\n...\n"};
    for (int z = 0; z < 4; z++) {
      due("layer(2, " + z + ")", x.layer(2, z), 8);
      dueOut(x, want[z]);
    }
    due("layer(2, 4)", x.layer(2, 4), -2);
    due("layer(2, -1)", x.layer(2, -1), -2);
    for (int tick : NO_TICKS) due("layer(" + tick + ", 0)", x.layer(tick, 0), -2);
    dueOut(x, want[3]);
    NumberedSparks y = told("world 1 1 1;kind life 9;source 0 at 0 0 0 from 0 every 1 burst 3 until 9;");
    String[] more = {"3\n", "6\n", "9\n", "9\n"};
    for (int t = 0; t < 4; t++) {
      y.layer(t, 0);
      dueOut(y, more[t]);
    }
    due("layer(0, 0) without", new NumberedSparks().layer(0, 0), -2);
  }

  // ---- single sparks once more ----

  static void promise35() {
    due("cellsOf(0)", told(STILL).cellsOf(0), 1);
    due("cellsOf(0)", told(FALL.replace("EDGE", "ends")).cellsOf(0), 2);
    // y by 8: 0, 0, 1, 3, 7, 11 in a world of 5: 0, 0, 1, 3, 2, 1.
    NumberedSparks x = told("world 1 5 1;kind life 6 falls 9;source 0 at 0 0 0 from 0 every 9 until 0;");
    due("cellsOf(0)", x.cellsOf(0), 4);
    NumberedSparks y = told(DRAWN);
    java.util.Set<String> cells = new java.util.HashSet<>();
    for (int t = y.spark(1024, 5); t < y.spark(1024, 6); t++) cells.add(y.place(1024, t, 0) / 8 + " " + y.place(1024, t, 1) / 8 + " " + y.place(1024, t, 2) / 8);
    due("cellsOf(1024)", y.cellsOf(1024), cells.size());
    due("cellsOf(1)", y.cellsOf(1), -2);
    due("cellsOf(0) without", new NumberedSparks().cellsOf(0), -2);
  }

  static void promise36() {
    NumberedSparks x = told(STILL);
    due("meets(0, 1024)", x.meets(0, 1024), 5);
    due("meets(0, 2048)", x.meets(0, 2048), 7);
    due("meets(2048, 0)", x.meets(2048, 0), 7);
    due("meets(0, 0)", x.meets(0, 0), -2);
    due("meets(0, 1)", x.meets(0, 1), -2);
    due("meets(1, 0)", x.meets(1, 0), -2);
    NumberedSparks y = told(DEPTH);
    due("meets(0, 256)", y.meets(0, 256), -1);
    due("meets(768, 2816)", y.meets(768, 2816), 2);
    // A child comes when its parent is gone.
    NumberedSparks line = told(LINE);
    due("meets(0, 16)", line.meets(0, 16), -1);
    due("meets(17, 18)", line.meets(17, 18), 4);
    // y 4, 4, 6, 10 against 12: in one cell from 3 on; another x does not meet.
    NumberedSparks fall = told("world 2 2 2;kind life 6 falls 2;kind life 9;source 0 at 0 0 0 from 0 every 9 until 0;source 1 at 0 1 0 from 0 every 9 until 0;source 1 at 1 1 0 from 0 every 9 until 0;");
    due("meets(0, 256)", fall.meets(0, 256), 3);
    due("meets(0, 512)", fall.meets(0, 512), -1);
    due("meets(0, 1) without", new NumberedSparks().meets(0, 1), -2);
  }

  static void promise43() {
    NumberedSparks x = told("world 1 1 1;kind life 1;kind life 1 childs 2 of 0;kind life 1 childs 2 of 1;source 2 at 0 0 0 from 0 every 1 until 1;");
    int[][] want = {{17, 18, 16}, {17, 16, 16}, {16, 17, 16}, {17, 33, 0}, {16, 32, 0}, {17, 32, 0}, {17, 0, 0}, {0, 34, 0}, {0, 0, 0}, {34, 34, 34},
      {16, 16, 16}, {0, 1024, -1}, {17, 1041, -1}, {1041, 1042, 1040}, {1056, 1041, 1024}, {19, 0, -2}, {0, 19, -2}, {0, -1, -2}, {0, 2048, -2}};
    for (int[] w : want) due("kin(" + w[0] + ", " + w[1] + ")", x.kin(w[0], w[1]), w[2]);
    due("kin(0, 0) without", new NumberedSparks().kin(0, 0), -2);
  }

  static void promise44() {
    NumberedSparks x = told(FALL.replace("EDGE", "wrap"));
    due("reach(0, 1, 0)", x.reach(0, 1, 0), 0);
    due("reach(0, 1, 1)", x.reach(0, 1, 1), 10);
    due("reach(0, 0, 0)", x.reach(0, 0, 0), 4);
    due("reach(0, 2, 1)", x.reach(0, 2, 1), 4);
    due("reach(0, 1, 1)", told(FALL.replace("EDGE", "bounce")).reach(0, 1, 1), 15);
    due("reach(0, 1, 0)", told(FALL.replace("EDGE", "bounce")).reach(0, 1, 0), 4);
    due("reach(0, 1, 1)", told(FALL.replace("EDGE", "ends")).reach(0, 1, 1), 10);
    due("reach(0, 3, 0)", x.reach(0, 3, 0), -2);
    due("reach(0, -1, 0)", x.reach(0, -1, 0), -2);
    due("reach(0, 0, 2)", x.reach(0, 0, 2), -2);
    due("reach(0, 0, -1)", x.reach(0, 0, -1), -2);
    due("reach(1, 0, 0)", x.reach(1, 0, 0), -2);
    due("reach(0, 0, 0) without", new NumberedSparks().reach(0, 0, 0), -2);
  }

  static void promise45() {
    due("over(0)", told(FALL.replace("EDGE", "wrap").replace("from 0", "from 7").replace("until 0", "until 7")).over(0), 11);
    due("over(0)", told(FALL.replace("EDGE", "bounce")).over(0), 4);
    due("over(0)", told(FALL.replace("EDGE", "ends")).over(0), -1);
    due("over(0)", told(FALL.replace("EDGE", "").replace("life 6", "life 4")).over(0), -1);
    due("over(0)", told(RISE.replace("EDGE", "")).over(0), 5);
    due("over(1)", told(STILL).over(1), -2);
    due("over(0)", told(STILL).over(0), -1);
    due("over(0) without", new NumberedSparks().over(0), -2);
  }

  static void promise49() {
    NumberedSparks x = told(LINE.replace("until 0", "until 12").replace("source 2", "source 0 at 0 1 2 from 9 every 1 until 9;source 2"));
    due("tell(0)", x.tell(0), 16);
    dueOut(x, "a00 9-11 4 12 20");
    due("tell(256)", x.tell(256), 16);
    dueOut(x, "c10 0-1 12 12 12");
    due("tell(272)", x.tell(272), 18);
    dueOut(x, "b10.0 1-4 12 12 12");
    due("tell(274)", x.tell(274), 20);
    dueOut(x, "a10.0.1 4-6 12 12 12");
    due("tell(1024 * 12 + 273)", x.tell(1024 * 12 + 273), 23);
    dueOut(x, "a112.0.0 16-18 12 12 12");
    due("tell(1)", x.tell(1), -2);
    due("tell(-1)", x.tell(-1), -2);
    dueOut(x, "a112.0.0 16-18 12 12 12");
    NumberedSparks big = told("world 40 40 40;kind life 40;source 0 at 39 39 39 from 0 every 1 burst 5;");
    due("tell(1024 * 49999)", big.tell(1024 * 49999), 30);
    dueOut(big, "a049999 9999-10039 316 316 316");
    due("tell(0) without", new NumberedSparks().tell(0), -2);
  }

  // ---- a source's births ----

  private static int[][] drawnBirths() {
    int[][] born = new int[42][];
    for (int k = 0; k < 42; k++) born[k] = new int[] {20 + k / 2 * 3 + draw(4711, 1024 * k, 0, 12), 1024 * k};
    Arrays.sort(born, (p, q) -> p[0] != q[0] ? p[0] - q[0] : p[1] - q[1]);
    return born;
  }

  static void promise37() {
    NumberedSparks x = told(DRAWN);
    int[][] born = drawnBirths();
    for (int n = 0; n < 42; n++) due("bornAs(0, " + n + ")", x.bornAs(0, n), born[n][1]);
    due("bornAs(0, 42)", x.bornAs(0, 42), -1);
    due("bornAs(0, max)", x.bornAs(0, Integer.MAX_VALUE), -1);
    due("bornAs(0, -1)", x.bornAs(0, -1), -2);
    due("bornAs(1, 0)", x.bornAs(1, 0), -2);
    due("bornAs(-1, 0)", x.bornAs(-1, 0), -2);
    due("bornAs(0, 3)", told(STILL).bornAs(0, 3), 3072);
    due("bornAs(0, 0) without", new NumberedSparks().bornAs(0, 0), -2);
  }

  static void promise38() {
    NumberedSparks x = told(DRAWN);
    for (int tick = 15; tick < 105; tick++) {
      int want = -1;
      for (int[] b : drawnBirths()) if (b[0] <= tick) want = b[1];
      due("latest(0, " + tick + ")", x.latest(0, tick), want);
    }
    NumberedSparks y = told(STILL);
    due("latest(0, 4)", y.latest(0, 4), -1);
    due("latest(0, 5)", y.latest(0, 5), 1024);
    due("latest(0, 30000)", y.latest(0, 30000), 3072);
    due("latest(1, 5)", y.latest(1, 5), -2);
    for (int tick : NO_TICKS) due("latest(0, " + tick + ")", y.latest(0, tick), -2);
    due("latest(0, 0) without", new NumberedSparks().latest(0, 0), -2);
  }

  static void promise53() {
    NumberedSparks x = told(DRAWN);
    for (int tick = 0; tick < 105; tick++) {
      int want = -1;
      for (int[] b : drawnBirths()) if (b[0] >= tick && want == -1) want = b[0];
      due("next(0, " + tick + ")", x.next(0, tick), want);
    }
    due("next(0, 30000)", x.next(0, 30000), -1);
    due("next(1, 0)", x.next(1, 0), -2);
    due("next(-1, 0)", x.next(-1, 0), -2);
    for (int tick : NO_TICKS) due("next(0, " + tick + ")", x.next(0, tick), -2);
    due("next(0, 0) without", new NumberedSparks().next(0, 0), -2);
  }

  static void promise54() {
    // Births in 10, 14, 18, 22.
    NumberedSparks x = told("world 1 1 1;kind life 1;source 0 at 0 0 0 from 10 every 4 burst 2 until 25;");
    int[][] want = {{0, 30, 10, 0}, {5, 30, 7, 23}, {10, 30, 7, 23}, {8, 20, 3, 11}, {10, 11, 0, -1}, {11, 12, 1, 11}, {11, 17, 3, 11}, {12, 17, 2, 12},
      {12, 18, 3, 15}, {100, 2100, 2000, 100}, {23, 26, 3, 23}, {0, 10, 10, 0}, {0, 2000, 1977, 23}, {28001, 30001, 2000, 28001}};
    for (int[] w : want)
      for (int what = 0; what < 2; what++) due("lull(0, " + w[0] + ", " + w[1] + ", " + what + ")", x.lull(0, w[0], w[1], what), w[2 + what]);
    due("lull(0, 0, 2001, 0)", x.lull(0, 0, 2001, 0), -2);
    due("lull(0, 5, 5, 0)", x.lull(0, 5, 5, 0), -2);
    due("lull(0, 5, 4, 0)", x.lull(0, 5, 4, 0), -2);
    due("lull(0, -1, 4, 0)", x.lull(0, -1, 4, 0), -2);
    due("lull(0, 30000, 30002, 0)", x.lull(0, 30000, 30002, 0), -2);
    due("lull(0, 0, 9, 2)", x.lull(0, 0, 9, 2), -2);
    due("lull(0, 0, 9, -1)", x.lull(0, 0, 9, -1), -2);
    due("lull(1, 0, 9, 0)", x.lull(1, 0, 9, 0), -2);
    NumberedSparks every = told("world 1 1 1;kind life 1;source 0 at 0 0 0 from 0 every 1;");
    due("lull(0, 0, 2000, 0)", every.lull(0, 0, 2000, 0), 0);
    due("lull(0, 0, 2000, 1)", every.lull(0, 0, 2000, 1), -1);
    due("lull(0, 0, 1, 0) without", new NumberedSparks().lull(0, 0, 1, 0), -2);
  }

  // ---- frames once more ----

  static void promise40() {
    NumberedSparks x = told(DEPTH);
    due("both(0, 2)", x.both(0, 2), 4);
    due("both(2, 6)", x.both(2, 6), 4);
    due("both(6, 2)", x.both(6, 2), 4);
    due("both(0, 5)", x.both(0, 5), 1);
    due("both(2, 2)", x.both(2, 2), 9);
    due("both(2, 30000)", x.both(2, 30000), 0);
    for (int tick : NO_TICKS) {
      due("both(" + tick + ", 0)", x.both(tick, 0), -2);
      due("both(0, " + tick + ")", x.both(0, tick), -2);
    }
    due("both(0, 0) without", new NumberedSparks().both(0, 0), -2);
  }

  static void promise41() {
    NumberedSparks x = told(DEPTH);
    int[][] want = {{0, 3}, {11, 3}, {12, 4}, {15, 4}, {16, 5}, {17, 5}, {18, 9}, {600, 9}, {601, -2}, {-1, -2}};
    for (int[] w : want) due("within(2, 0, 0, 1, " + w[0] + ")", x.within(2, 0, 0, 1, w[0]), w[1]);
    due("within(11, 0, 0, 0, 600)", x.within(11, 0, 0, 0, 600), 0);
    due("within(2, 0, 0, 4, 0)", x.within(2, 0, 0, 4, 0), -2);
    wrongColumns(x, (a, b) -> x.within(2, a, b, 0, 9));
    for (int tick : NO_TICKS) due("within(" + tick + ", 0, 0, 0, 0)", x.within(tick, 0, 0, 0, 0), -2);
    due("within(0, 0, 0, 0, 0) without", new NumberedSparks().within(0, 0, 0, 0, 0), -2);
  }

  static void promise42() {
    NumberedSparks x = told(DEPTH);
    int[][] want = {{2, 9, 10, 0}, {6, 4, 6 + 4 + 4 + 4, 0}, {9, 1, 7, 512}, {11, 0, 0, -1}};
    for (int[] w : want)
      for (int what = 0; what < 3; what++) due("ofAge(" + w[0] + ", 0, " + what + ")", x.ofAge(w[0], 0, what), w[1 + what]);
    due("ofAge(2, 1, 0)", x.ofAge(2, 1, 0), 0);
    due("ofAge(2, 1, 2)", x.ofAge(2, 1, 2), -1);
    NumberedSparks line = told(LINE.replace("until 0", "until 1"));
    // Tick 3: 16 of age 2, 1040 of age 1; tick 5: 17, 18 of age 1, 1041, 1042 of age 0.
    int[][] kids = {{3, 1, 2, 3, 16}, {5, 2, 4, 2, 17}, {5, 1, 0, 0, -1}, {6, 2, 2, 2, 1041}};
    for (int[] w : kids)
      for (int what = 0; what < 3; what++) due("ofAge(" + w[0] + ", " + w[1] + ", " + what + ")", line.ofAge(w[0], w[1], what), w[2 + what]);
    due("ofAge(2, 3, 0)", x.ofAge(2, 3, 0), -2);
    due("ofAge(2, -1, 0)", x.ofAge(2, -1, 0), -2);
    due("ofAge(2, 0, 3)", x.ofAge(2, 0, 3), -2);
    due("ofAge(11, 0, -1)", x.ofAge(11, 0, -1), -2);
    for (int tick : NO_TICKS) due("ofAge(" + tick + ", 0, 0)", x.ofAge(tick, 0, 0), -2);
    due("ofAge(0, 0, 0) without", new NumberedSparks().ofAge(0, 0, 0), -2);
  }

  private static int fluxDue(int a, int b, int n, int way) {
    int often = 0;
    for (int k = 0; k <= 10; k++) {
      int speed = draw(7, 1024 * k, 2, 11) - 5;
      for (int t = Math.max(a, 3 * k + 1); t < Math.min(b, 3 * k + 10); t++) {
        boolean was = Math.floorMod(12 + (t - 1 - 3 * k) * speed, 32) / 8 >= n;
        boolean is = Math.floorMod(12 + (t - 3 * k) * speed, 32) / 8 >= n;
        if (was != is && is == (way == 1)) often++;
      }
    }
    return often;
  }

  static void promise46() {
    String text = "world 4 1 1;seed 7;kind life 10 speed 5;source 0 at 1 0 0 from 0 every 3 until 30;";
    NumberedSparks x = told(text);
    int all = 0;
    for (int a = 0; a < 45; a += 2) {
      NumberedSparks y = told(text);
      for (int b = a; b < 48; b += 5)
        for (int n = 1; n < 4; n++)
          for (int way = 0; way < 2; way++) {
            due("flux(" + a + ", " + b + ", " + n + ", " + way + ")", y.flux(a, b, n, way), fluxDue(a, b, n, way));
            all += fluxDue(a, b, n, way);
          }
    }
    due("some went over", all > 0 ? 1 : 0, 1);
    due("flux(0, 60, 1, 1)", x.flux(0, 60, 1, 1), fluxDue(0, 60, 1, 1));
    due("flux(0, 61, 1, 1)", x.flux(0, 61, 1, 1), -2);
    due("flux(4, 3, 1, 1)", x.flux(4, 3, 1, 1), -2);
    due("flux(-1, 3, 1, 1)", x.flux(-1, 3, 1, 1), -2);
    due("flux(30001, 30001, 1, 1)", x.flux(30001, 30001, 1, 1), 0);
    due("flux(30001, 30002, 1, 1)", x.flux(30001, 30002, 1, 1), -2);
    due("flux(0, 9, 0, 1)", x.flux(0, 9, 0, 1), -2);
    due("flux(0, 9, 4, 1)", x.flux(0, 9, 4, 1), -2);
    due("flux(0, 9, 1, 2)", x.flux(0, 9, 1, 2), -2);
    due("flux(0, 9, 1, -1)", x.flux(0, 9, 1, -1), -2);
    due("flux(0, 9, 1, 1) in a narrow world", told("world 1 1 1;").flux(0, 9, 1, 1), -2);
    due("flux(0, 1, 1, 0) without", new NumberedSparks().flux(0, 1, 1, 0), -2);
  }

  static void promise50() {
    NumberedSparks x = told(DEPTH);
    int[] want = new int[8];
    for (int code : IN_ORDER) want[draw(0, code, 5, 8)]++;
    for (int colour = 0; colour < 8; colour++) due("colours(2, " + colour + ")", x.colours(2, colour), want[colour]);
    due("colours(2, 8)", x.colours(2, 8), -2);
    due("colours(2, -1)", x.colours(2, -1), -2);
    for (int tick : NO_TICKS) due("colours(" + tick + ", 0)", x.colours(tick, 0), -2);
    due("colours(0, 0) without", new NumberedSparks().colours(0, 0), -2);
  }

  static void promise51() {
    NumberedSparks x = told(DEPTH);
    int[] want = {1, 2, 3, 3, 3, 3, 3, 2, 2, 1, 1, 0};
    for (int t = 0; t < want.length; t++) due("columns(" + t + ")", x.columns(t), want[t]);
    for (int tick : NO_TICKS) due("columns(" + tick + ")", x.columns(tick), -2);
    due("columns(0) without", new NumberedSparks().columns(0), -2);
  }

  static void promise52() {
    NumberedSparks x = told(DEPTH);
    int[] want = {2304, 1280, 256, 0, -1};
    for (int k = 0; k < 5; k++) due("below(2, 0, 0, " + k + ")", x.below(2, 0, 0, k), want[k]);
    due("below(2, 2, 0, 3)", x.below(2, 2, 0, 3), 768);
    due("below(2, 1, 0, 0)", x.below(2, 1, 0, 0), -1);
    due("below(2, 0, 0, -1)", x.below(2, 0, 0, -1), -2);
    due("below(2, 0, 0, max)", x.below(2, 0, 0, Integer.MAX_VALUE), -1);
    wrongColumns(x, (a, b) -> x.below(2, a, b, 0));
    for (int tick : NO_TICKS) due("below(" + tick + ", 0, 0, 0)", x.below(tick, 0, 0, 0), -2);
    due("below(0, 0, 0, 0) without", new NumberedSparks().below(0, 0, 0, 0), -2);
  }

  static void promise55() {
    NumberedSparks x = told("world 1 1 1;kind life 2;kind life 3 childs 2 of 0;kind life 1 childs 2 of 1;source 2 at 0 0 0 from 0 every 1 burst 2 until 0;");
    int[] want = {0, 4, 4, 4, 8, 8, 0};
    for (int t = 0; t < want.length; t++) due("twins(" + t + ")", x.twins(t), want[t]);
    NumberedSparks only = told(LINE);
    int[] few = {0, 0, 0, 0, 2, 2, 0};
    for (int t = 0; t < few.length; t++) due("twins(" + t + ")", only.twins(t), few[t]);
    // Twins that end in their own ticks: only while both are there.
    NumberedSparks y = told("world 1 1 1;seed 2;kind life 1 vary 20;kind life 1 childs 2 of 0;source 1 at 0 0 0 from 0 every 1 until 0;");
    int first = 1 + 1 + Math.min(draw(2, 16, 1, 21), draw(2, 32, 1, 21));
    int last = 1 + 1 + Math.max(draw(2, 16, 1, 21), draw(2, 32, 1, 21));
    due("they end in their own ticks", first < last ? 1 : 0, 1);
    for (int t = 0; t < 25; t++) due("twins(" + t + ")", y.twins(t), t >= 1 && t < first ? 2 : 0);
    for (int tick : NO_TICKS) due("twins(" + tick + ")", x.twins(tick), -2);
    due("twins(0) without", new NumberedSparks().twins(0), -2);
  }

  // ---- changes ----

  static void promise47() {
    NumberedSparks x = told("world 2 2 2;kind life 6 falls 2;kind life 1;source 0 at 0 0 0 from 0 every 9 until 0;");
    int[] least = {1, 0, 0, -9, 1};
    int[] most = {40, 20, 20, 9, 9};
    for (int what = 0; what < 5; what++) {
      due("sets(1, " + what + ", most)", x.sets(1, what, most[what]), what == 0 || what == 4 ? 1 : 0);
      due("sets(1, " + what + ", least)", x.sets(1, what, least[what]), most[what]);
      due("sets(1, " + what + ", above)", x.sets(1, what, most[what] + 1), -99);
      due("sets(1, " + what + ", below)", x.sets(1, what, least[what] - 1), -99);
      due("kind(1, " + what + ")", x.kind(1, what), least[what]);
    }
    due("sets(1, 5, 1)", x.sets(1, 5, 1), -99);
    due("sets(1, -1, 1)", x.sets(1, -1, 1), -99);
    due("sets(2, 0, 1)", x.sets(2, 0, 1), -99);
    due("sets(-1, 0, 1)", x.sets(-1, 0, 1), -99);
    due("many(5, -1)", x.many(5, -1), 1);
    due("sets(0, 0, 5)", x.sets(0, 0, 5), 6);
    due("many(5, -1)", x.many(5, -1), 0);
    due("spark(0, 6)", x.spark(0, 6), 5);
    due("sets(0, 3, -1)", x.sets(0, 3, -1), 2);
    due("place(0, 3, 1)", x.place(0, 3, 1), 1);
    due("sets(0, 0, 1) without", new NumberedSparks().sets(0, 0, 1), -99);
  }

  static void promise48() {
    NumberedSparks x = told("world 2 2 2;kind life 6;source 0 at 0 0 0 from 0 every 9 until 0;");
    due("undo()", x.undo(), -1);
    x.seed(0);
    x.sets(0, 0, 6);
    x.sets(0, 0, 99);
    x.seed(-1);
    due("undo() of nothing that changed", x.undo(), -1);
    x.seed(3);
    x.sets(0, 0, 2);
    x.sets(0, 3, -4);
    due("undo()", x.undo(), 2);
    due("kind(0, 3)", x.kind(0, 3), 0);
    due("many(5, -1)", x.many(5, -1), 0);
    due("undo()", x.undo(), 1);
    due("kind(0, 0)", x.kind(0, 0), 6);
    due("many(5, -1)", x.many(5, -1), 1);
    due("count(5)", x.count(5), 3);
    due("undo()", x.undo(), 0);
    due("count(5)", x.count(5), 0);
    due("undo()", x.undo(), -1);
    for (int i = 1; i <= 12; i++) x.seed(i);
    for (int i = 9; i >= 0; i--) due("undo()", x.undo(), i);
    due("count(5)", x.count(5), 2);
    due("undo()", x.undo(), -1);
    // Twelve of all sorts: the first two can't be taken back.
    int[][] changes = {{0, 0, 11}, {0, 1, 3}, {0, 0, 12}, {0, 4, 5}, {-1, 0, 70}, {0, 2, 7}, {0, 3, -8}, {-1, 0, 71}, {0, 4, 6}, {-1, 0, 72}, {0, 0, 13}, {0, 3, 8}};
    int[][] seen = new int[13][];
    for (int i = 0; i <= 12; i++) {
      seen[i] = new int[] {x.kind(0, 0), x.kind(0, 1), x.kind(0, 2), x.kind(0, 3), x.kind(0, 4), x.count(5)};
      if (i < 12 && changes[i][0] < 0) x.seed(changes[i][2]);
      else if (i < 12) x.sets(0, changes[i][1], changes[i][2]);
    }
    for (int i = 11; i >= 2; i--) {
      due("undo()", x.undo(), i - 2);
      for (int what = 0; what < 5; what++) due("kind(0, " + what + ") behind undo", x.kind(0, what), seen[i][what]);
      due("count(5) behind undo", x.count(5), seen[i][5]);
    }
    due("undo()", x.undo(), -1);
    x.seed(50);
    feedText(x, "world 1 1;");
    x.scene();
    x.seed(51);
    due("undo() behind a fault", x.undo(), 1);
    feedText(x, "world 1 1 1;seed 8;");
    x.scene();
    due("undo() of another scene's", x.undo(), -1);
    due("count(5)", x.count(5), 8);
    due("undo() without", new NumberedSparks().undo(), -2);
  }
}
