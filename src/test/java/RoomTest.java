import java.lang.management.ManagementFactory;
import java.nio.ByteBuffer;
import java.nio.charset.StandardCharsets;
import java.util.Arrays;

/** The fullest scenes that a text can tell, 512 calls of the dearest kinds: how much room and time they take. */
public final class RoomTest {
  // A tenth of what all calls of a run may make, were each element an int.
  private static final long MOST_BYTES = 3_000_000L;
  private static final long MOST_SECONDS = 120;

  private static final com.sun.management.ThreadMXBean THREADS = (com.sun.management.ThreadMXBean) ManagementFactory.getThreadMXBean();

  private static long made() { return THREADS.getThreadAllocatedBytes(Thread.currentThread().getId()); }

  private static String full(String edge, String more) {
    String kind = "kind life 40 vary 20 speed 20 " + edge;
    return "world 40 40 40;seed 31;" + kind + ";" + kind + " childs 2 of 0;" + kind + " childs 2 of 1;"
      + ("source 2 at 20 20 20 from 0 every 1 burst 5" + more + ";").repeat(4);
  }

  private static long ask(NumberedSparks x, int i) {
    int tick = 300 + 31 * i % 9000;
    switch (i % 9) {
      case 0: return x.firstIn(tick, i % 40, 39);
      case 1: return x.peak(tick, tick + 60, 1);
      case 2: return x.endings(tick, tick + 300);
      case 3: return x.flux(tick, tick + 60, 20, 1);
      case 4: return x.digest(tick);
      case 5: return x.twos(tick);
      case 6: return x.picture(tick);
      case 7: return x.lull(i % 4, tick, tick + 2000, 0);
      default: return x.bornAs(i % 4, i * 90);
    }
  }

  private static void tell(NumberedSparks x, String text) {
    byte[] bytes = Arrays.copyOf(text.getBytes(StandardCharsets.ISO_8859_1), (text.length() + 19) / 20 * 20);
    ByteBuffer four = ByteBuffer.wrap(bytes);
    for (int i = 0; i < bytes.length; i += 20) x.feed(four.getInt(), four.getInt(), four.getInt(), four.getInt(), four.getInt());
    x.end(text.length());
    if (x.scene() < 0) throw new IllegalStateException("the text has a fault: " + text);
  }

  public static void main(String[] args) {
    int wrong = 0;
    String[] edges = {"wrap", "falls 1 bounce", "ends"};
    for (String edge : edges) {
      NumberedSparks warm = new NumberedSparks();
      tell(warm, full(edge, " jitter 20"));
      ask(warm, 4);
      long before = made();
      long start = System.nanoTime();
      NumberedSparks x = new NumberedSparks();
      tell(x, full(edge, " jitter 20"));
      int most = 0;
      for (int i = 0; i < 460; i++) {
        ask(x, i);
        most = Math.max(most, i % 50 == 4 ? x.many(300 + 31 * i % 9000, -1) : 0);
      }
      long bytes = made() - before;
      long seconds = (System.nanoTime() - start) / 1_000_000_000L;
      System.out.println(edge + ": up to " + most + " sparks in a tick, " + bytes + " bytes, " + seconds + " s");
      if (bytes > MOST_BYTES || seconds > MOST_SECONDS) wrong++;
    }
    long before = made();
    for (int i = 0; i < 512; i++) new NumberedSparks();
    long each = (made() - before) / 512;
    System.out.println("a new object: " + each + " bytes");
    if (each > 40_000) wrong++;
    System.out.println((edges.length + 1 - wrong) + " passed, " + wrong + " failed");
    if (wrong != 0) System.exit(1);
  }
}
