import java.nio.ByteBuffer;
import java.nio.charset.StandardCharsets;
import java.util.Arrays;

/** What the tests of promises and of boundary cases share: scenes, texts, draws, counting. */
abstract class Checks {
  static int passed = 0;
  static int failed = 0;
  /** What is under test, for the report. */
  static String where = "";

  // Four sparks in one place: 0, 1024 in ticks 5 .. 7, 2048, 3072 in 7 .. 9.
  static final String STILL = "world 4 3 2;kind life 3;source 0 at 1 1 0 from 5 every 2 burst 2 until 8;";
  // 0 of kind 2 in tick 0; its child 16 of kind 1 in 1 .. 3; its children 17, 18 of kind 0 in 4, 5.
  static final String LINE = "world 3 3 3;kind life 2;kind life 3 childs 2 of 0;kind life 1 childs 1 of 1;source 2 at 1 1 1 from 0 every 1 until 0;";
  // y: 4, 4, 6, 10, 16, 24 without edges, in a world of 16.
  static final String FALL = "world 2 2 2;kind life 6 falls 2 EDGE;source 0 at 0 0 0 from 0 every 9 until 0;";
  // y: 12, 12, 10, 6, 0, -8.
  static final String RISE = "world 2 2 2;kind life 6 falls -2 EDGE;source 0 at 0 1 0 from 0 every 9 until 0;";
  // Tick 2: 0 at (4, 4, 28); 256, 1280, 2304 at (4, 4, 12); 512 at (12, 12, 12); 768, 1792, 2816, 3840 at (20, 4, 4).
  static final String DEPTH = "world 3 2 4;kind life 9;kind life 5 size 7;source 0 at 0 0 3 from 0 every 9 until 0;"
    + "source 1 at 0 0 1 from 0 every 9 burst 3 until 0;source 0 at 1 1 1 from 2 every 9 until 2;source 1 at 2 0 0 from 1 every 1 burst 2 until 2;";
  // Drawn births, lives, speeds.
  static final String DRAWN = "world 5 6 7;seed 4711;kind life 10 vary 9 speed 6;source 0 at 2 3 4 from 20 every 3 burst 2 until 80 jitter 11;";

  static void due(String call, long got, long want) {
    if (got == want) { passed++; return; }
    failed++;
    System.out.println(where + ": " + call + " answered " + got + ", due is " + want);
  }

  static void feedText(NumberedSparks x, String text) {
    byte[] bytes = Arrays.copyOf(text.getBytes(StandardCharsets.ISO_8859_1), (text.length() + 19) / 20 * 20);
    ByteBuffer four = ByteBuffer.wrap(bytes);
    for (int i = 0; i < bytes.length; i += 20) x.feed(four.getInt(), four.getInt(), four.getInt(), four.getInt(), four.getInt());
    x.end(text.length());
  }

  static NumberedSparks told(String text) {
    NumberedSparks x = new NumberedSparks();
    feedText(x, text);
    due("scene() of " + text, x.scene(), text.chars().filter(c -> c == ';').count());
    return x;
  }

  static void faulty(String text, int number, int place) {
    NumberedSparks x = new NumberedSparks();
    feedText(x, text);
    due("scene() of " + text, x.scene(), -4);
    due("fault(0) of " + text, x.fault(0), number);
    due("fault(1) of " + text, x.fault(1), place);
  }

  static String out(NumberedSparks x) {
    StringBuilder b = new StringBuilder();
    for (int i = 0; x.octet(i) != -1; i++) b.append((char) x.octet(i));
    return b.toString();
  }

  static void dueOut(NumberedSparks x, String want) {
    String got = out(x);
    due("OUT is '" + got + "', due is '" + want + "': is it", got.equals(want) ? 1 : 0, 1);
    due("count(7)", x.count(7), want.length());
  }

  static long mixed(long seed, long code, long salt) {
    long z = seed + code * -7046029254386353131L + salt * -3335678366873096957L;
    z = (z ^ (z >>> 30)) * -4658895280553007687L;
    z = (z ^ (z >>> 27)) * -7723592293110705685L;
    return z ^ (z >>> 31);
  }

  static int draw(long seed, long code, long salt, int n) { return (int) ((mixed(seed, code, salt) >>> 33) % n); }

  static final int[] NO_TICKS = {-1, 30001, Integer.MIN_VALUE, Integer.MAX_VALUE};

  static void finish() {
    System.out.println(passed + " passed, " + failed + " failed");
    if (failed != 0) System.exit(1);
  }
}
