import java.lang.reflect.Method;
import java.util.ArrayList;
import java.util.Arrays;
import java.util.List;
import java.util.Random;

/** Random runs of calls, the same ones each time, held against NaiveSparks. */
public final class RandomRunsTest {
  private static final int CALLS = 512;

  // For each method what its numbers are: c a code, t a tick, x y z cells, w a what,
  // s a source, k a kind, g a generation, n a small number, r a radius, p a colour,
  // v a kind's value, d a seed, i any number, and a window's two ends: A B (300), C D (60), E F (2000), G H (any).
  private static final String[] CALLED = {
    "count w", "fault w", "kind kw", "source sw", "seed d", "mixed ii", "is c", "child cn", "parent c", "spark cw",
    "place ctw", "size ct", "edges c", "births sGH", "endings AB", "many tn", "drawn tn", "digest t", "inColumn txy",
    "top txy", "fullest tw", "nearest txyz", "twos t", "firstIn txy", "peak CDw", "line cw", "box tw", "middle tw",
    "picture t", "octet n", "cellsOf c", "meets cc", "bornAs sn", "latest st", "layer tz", "both tt", "within txyzr",
    "ofAge tgw", "kin cc", "reach cwn", "over c", "flux CDnw", "sets kwv", "undo ", "tell c", "colours tp", "columns t",
    "below txyn", "next st", "lull sEFw", "twins t",
  };

  private final Random random;
  private final NumberedSparks sparks = new NumberedSparks();
  private final NaiveSparks naive = new NaiveSparks();
  private final List<String> log = new ArrayList<>();
  private List<Integer> codes = List.of();
  private List<Integer> ticks = List.of();
  private int done;
  private int windowStart;

  private RandomRunsTest(long seed) { random = new Random(seed); }

  public static void main(String[] args) throws Exception {
    int runs = args.length > 0 ? Integer.parseInt(args[0]) : 600;
    long from = args.length > 1 ? Long.parseLong(args[1]) : 0;
    int wrong = 0;
    for (long seed = from; seed < from + runs; seed++) {
      String fault = new RandomRunsTest(seed).run();
      if (fault != null) {
        wrong++;
        System.out.println("random run " + seed + ": " + fault);
      }
    }
    System.out.println((runs - wrong) + " passed, " + wrong + " failed");
    if (wrong != 0) System.exit(1);
  }

  private String run() throws Exception {
    String fault = null;
    while (done < CALLS && fault == null) {
      if (done == 0 ? random.nextInt(8) != 0 : random.nextInt(60) == 0) fault = tellScene();
      else fault = call(CALLED[random.nextInt(CALLED.length)]);
    }
    return fault;
  }

  private String tellScene() throws Exception {
    String text = randomText();
    if (random.nextInt(3) == 0) text = spoiled(text);
    if (random.nextInt(5) == 0) text = text.replace(" ", random.nextBoolean() ? "\n" : "  ");
    if (text.length() > 500) text = text.substring(0, 500);
    byte[] bytes = Arrays.copyOf(text.getBytes("ISO-8859-1"), (text.length() + 19) / 20 * 20);
    for (int i = 0; i < bytes.length; i += 20) {
      Object[] five = new Object[5];
      for (int j = 0; j < 5; j++) five[j] = java.nio.ByteBuffer.wrap(bytes, i + 4 * j, 4).getInt();
      String fault = same("feed", five);
      if (fault != null) return fault;
    }
    String fault = same("end", text.length());
    if (fault == null) fault = same("scene");
    for (int what = 0; what < 2 && fault == null; what++) fault = same("fault", what);
    log.add("  text: " + text.replace("\n", "\\n"));
    return fault;
  }

  private String call(String shape) throws Exception {
    String name = shape.substring(0, shape.indexOf(' '));
    String roles = shape.substring(name.length() + 1);
    codes = naive.codes();
    ticks = new ArrayList<>(naive.ticks());
    Object[] numbers = new Object[roles.length()];
    for (int i = 0; i < numbers.length; i++) numbers[i] = number(roles.charAt(i), name);
    String fault = same(name, numbers);
    // What the pictures hold is asked for at once, as nothing else shows it.
    for (int i = 0; i < 4 && fault == null && "picture layer tell".contains(name); i++)
      fault = same("octet", random.nextInt(naive.count(7) + 2) - 1);
    return fault;
  }

  private int number(char role, String name) {
    if (random.nextInt(40) == 0) return new int[] {-1, -2, Integer.MIN_VALUE, Integer.MAX_VALUE, 30001, 1 << 20}[random.nextInt(6)];
    switch (role) {
      case 'c':
        if (codes.isEmpty() || random.nextInt(12) == 0) return random.nextInt(4000);
        int code = codes.get(random.nextInt(random.nextInt(3) == 0 ? Math.min(40, codes.size()) : codes.size()));
        return random.nextInt(12) == 0 ? code + random.nextInt(40) - 8 : code;
      case 't': return tick();
      case 'x': return random.nextInt(naive.count(0) + 1 + random.nextInt(2)) - random.nextInt(2);
      case 'y': return random.nextInt(naive.count(1) + 1 + random.nextInt(2)) - random.nextInt(2);
      case 'z': return random.nextInt(naive.count(2) + 1 + random.nextInt(2)) - random.nextInt(2);
      case 'w': return name.equals("count") || name.equals("kind") || name.equals("source") || name.equals("spark")
        ? random.nextInt(13) - 1 : random.nextInt(random.nextInt(5) == 0 ? 8 : 3) - random.nextInt(20) / 19;
      case 's': return random.nextInt(naive.count(4) + 1) - random.nextInt(8) / 7;
      case 'k': return random.nextInt(naive.count(3) + 1) - random.nextInt(8) / 7;
      case 'g': return random.nextInt(4);
      case 'n': return random.nextInt(random.nextBoolean() ? 4 : 60) - 1;
      case 'r': return random.nextInt(random.nextBoolean() ? 60 : 620);
      case 'p': return random.nextInt(10) - 1;
      case 'v': return random.nextInt(12) == 0 ? random.nextInt(60) - 12 : random.nextInt(20) - 2;
      case 'd': return random.nextInt(4) == 0 ? random.nextInt(1100000) : random.nextInt(4);
      case 'i': return random.nextBoolean() ? random.nextInt() : random.nextInt(2000);
      case 'A': case 'C': case 'E': case 'G': return windowStart = tick();
      case 'B': return windowStart + random.nextInt(310) - 2;
      case 'D': return windowStart + random.nextInt(64) - 1;
      case 'F': return windowStart + (random.nextBoolean() ? random.nextInt(100) : random.nextInt(2050) - 1);
      default: return windowStart + (random.nextBoolean() ? random.nextInt(40) : random.nextInt(30000)) - 1;
    }
  }

  private int tick() {
    if (ticks.isEmpty() || random.nextInt(15) == 0) return random.nextInt(30010);
    return ticks.get(random.nextInt(ticks.size())) + random.nextInt(3) - 1;
  }

  private String same(String name, Object... numbers) throws Exception {
    done++;
    Class<?>[] types = new Class<?>[numbers.length];
    Arrays.fill(types, int.class);
    Method its = NumberedSparks.class.getMethod(name, types);
    Method due = NaiveSparks.class.getMethod(name, types);
    Object got = its.invoke(sparks, numbers);
    Object want = due.invoke(naive, numbers);
    log.add(name + Arrays.toString(numbers) + " = " + got);
    if (got.equals(want)) return null;
    int last = log.size() - 1;
    List<String> shown = new ArrayList<>();
    for (int i = 0; i < log.size(); i++) if (i > last - 3 || log.get(i).startsWith("  text") || log.get(i).startsWith("se") || log.get(i).startsWith("undo")) shown.add(log.get(i));
    return String.join("\n    ", shown) + ", due is " + want;
  }

  // ---- texts ----

  private String randomText() {
    StringBuilder text = new StringBuilder("world " + side() + " " + side() + " " + side() + ";");
    int[] world = Arrays.stream(text.substring(6, text.length() - 1).split(" ")).mapToInt(Integer::parseInt).toArray();
    if (random.nextBoolean()) text.append("seed ").append(random.nextInt(1000000)).append(";");
    int kinds = random.nextInt(10) == 0 ? 0 : 1 + random.nextInt(5);
    for (int k = 0; k < kinds; k++) text.append(kind(k)).append(";");
    int sources = kinds == 0 ? 0 : random.nextInt(5);
    for (int s = 0; s < sources; s++) text.append(source(kinds, world)).append(";");
    return text.toString();
  }

  private int side() { return 1 + random.nextInt(random.nextInt(3) == 0 ? 40 : 6); }

  private String kind(int k) {
    String text = "kind life " + (1 + random.nextInt(random.nextBoolean() ? 40 : 6));
    if (random.nextBoolean()) text += " vary " + random.nextInt(21);
    if (random.nextInt(4) != 0) text += " speed " + random.nextInt(21);
    if (random.nextBoolean()) text += " falls " + (random.nextBoolean() ? "-" : "") + random.nextInt(10);
    if (random.nextBoolean()) text += " size " + (1 + random.nextInt(9));
    text += new String[] {"", " wrap", " bounce", " ends"}[random.nextInt(4)];
    if (k > 0 && random.nextInt(3) != 0) text += " childs " + (1 + random.nextInt(2)) + " of " + random.nextInt(k);
    return text;
  }

  private String source(int kinds, int[] world) {
    String text = "source " + (random.nextBoolean() ? kinds - 1 : random.nextInt(kinds)) + " at " + random.nextInt(world[0]) + " " + random.nextInt(world[1]) + " " + random.nextInt(world[2]);
    int from = random.nextInt(6) == 0 ? 9900 + random.nextInt(100) : random.nextInt(random.nextBoolean() ? 10 : 600);
    boolean sparse = from < 9900 && random.nextInt(8) == 0;
    text += " from " + from + " every " + (sparse ? 70 + random.nextInt(30) : 1 + random.nextInt(random.nextBoolean() ? 4 : 30));
    if (random.nextBoolean()) text += " burst " + (1 + random.nextInt(5));
    if (from < 9900 && !sparse) text += " until " + Math.max(0, from + random.nextInt(random.nextInt(4) == 0 ? 200 : 60) - 3);
    if (random.nextBoolean()) text += " jitter " + random.nextInt(21);
    return text;
  }

  private String spoiled(String text) {
    StringBuilder b = new StringBuilder(text);
    for (int i = 1 + random.nextInt(2); i > 0; i--) {
      int at = random.nextInt(b.length());
      switch (random.nextInt(6)) {
        case 0: b.deleteCharAt(at); break;
        case 1: b.insert(at, (char) random.nextInt(256)); break;
        case 2: b.insert(at, "0123456789 ;-".charAt(random.nextInt(13))); break;
        case 3: b.setLength(at + 1); break;
        case 4:
          int semi = b.indexOf(";", at);
          b.insert(semi < 0 ? 0 : semi + 1, new String[] {"seed 5;", "kind life 3;", "world 1 1 1;", ";", "source 0 at 0 0 0 from 0 every 9 until 9;"}[random.nextInt(5)]);
          break;
        default:
          int blank = b.indexOf(" ", at);
          if (blank >= 0) b.insert(blank + 1, "9");
      }
    }
    return b.toString();
  }
}
