import java.lang.reflect.Method;
import java.nio.ByteBuffer;
import java.nio.charset.StandardCharsets;
import java.util.Arrays;

/** The fullest ticks that a text can tell, thousands of sparks in one frame, held against NaiveSparks. */
public final class FullestTickTest extends Checks {
  // Births go on for longer than a root's line lasts (200 ticks): from then on a tick is as full as it can be.
  private static final int UNTIL = 230;

  private final NumberedSparks sparks = new NumberedSparks();
  private final NaiveSparks naive = new NaiveSparks();

  private static String full(String edge) {
    String kind = "kind life 40 vary 20 speed 20 " + edge;
    return "world 40 40 40;seed 31;" + kind + ";" + kind + " childs 2 of 0;" + kind + " childs 2 of 1;"
      + ("source 2 at 20 20 20 from 0 every 1 burst 5 until " + UNTIL + " jitter 20;").repeat(4);
  }

  public static void main(String[] args) throws Exception {
    for (String edge : new String[] {"wrap", "falls -9 bounce", "ends"}) {
      where = "the fullest ticks, " + edge;
      new FullestTickTest().run(full(edge), edge.equals("ends") ? 700 : 6000);
    }
    finish();
  }

  private void run(String text, int least) throws Exception {
    byte[] bytes = Arrays.copyOf(text.getBytes(StandardCharsets.ISO_8859_1), (text.length() + 19) / 20 * 20);
    ByteBuffer four = ByteBuffer.wrap(bytes);
    for (int i = 0; i < bytes.length; i += 20) same("feed", four.getInt(), four.getInt(), four.getInt(), four.getInt(), four.getInt());
    same("end", text.length());
    same("scene");
    int most = 0;
    for (int tick : new int[] {UNTIL, UNTIL - 15, 60, UNTIL + 100}) {
      most = Math.max(most, sparks.many(tick, -1));
      frame(tick);
    }
    due("are there " + least + " sparks in a tick, not " + most, most >= least ? 1 : 0, 1);
  }

  private void frame(int tick) throws Exception {
    same("digest", tick);
    int many = sparks.many(tick, -1);
    for (int what = -1; what < 3; what++) same("many", tick, what);
    for (int k : new int[] {0, 1, many / 2, many - 1, many}) same("drawn", tick, k);
    for (String name : new String[] {"twos", "columns", "twins"}) same(name, tick);
    for (String name : new String[] {"fullest", "box", "middle"}) for (int what = 0; what < 3; what++) same(name, tick, what);
    for (int g = 0; g < 3; g++) for (int what = 0; what < 3; what++) same("ofAge", tick, g, what);
    for (int x = 18; x < 22; x++) same("nearest", tick, x, 20, 20);
    for (int k = 0; k < 4; k++) same("below", tick, 20, 20, k);
    same("within", tick, 20, 20, 20, 60);
    same("both", tick, tick + 30);
    same("colours", tick, 5);
    same("firstIn", tick, 39, 0);
    same("endings", tick, tick + 20);
    same("peak", tick, tick + 9, 1);
    same("flux", tick, tick + 9, 20, 1);
    picture(tick);
    same("layer", tick, 20);
    for (int i = 0; i < 40 * 41; i += 7) same("octet", i);
  }

  /** Byte by byte, at some columns alone: the naive picture looks through all sparks for each of its columns. */
  private void picture(int tick) {
    due("picture(" + tick + ")", sparks.picture(tick), 40 * 41);
    for (int y = 0; y < 40; y += 3) {
      int x = (11 * y + tick) % 40;
      int top = naive.top(tick, x, y);
      due("the picture of " + tick + " at " + x + ", " + y, sparks.octet(41 * y + x), top < 0 ? '.' : '0' + naive.spark(top, 4));
      due("its row's end", sparks.octet(41 * y + 40), '\n');
    }
  }

  private void same(String name, Object... numbers) throws Exception {
    Class<?>[] types = new Class<?>[numbers.length];
    Arrays.fill(types, int.class);
    Method its = NumberedSparks.class.getMethod(name, types);
    Method plain = NaiveSparks.class.getMethod(name, types);
    long got = ((Number) its.invoke(sparks, numbers)).longValue();
    due(name + Arrays.toString(numbers), got, ((Number) plain.invoke(naive, numbers)).longValue());
  }
}
