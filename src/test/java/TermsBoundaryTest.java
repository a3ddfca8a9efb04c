import java.util.ArrayList;
import java.util.Arrays;
import java.util.List;

/** Each sentence of the Terms that names a boundary case, with a test of its own. */
public final class TermsBoundaryTest extends Checks {
  private static Sentences doc;

  public static void main(String[] args) throws Exception {
    doc = new Sentences();
    doc.section("I");
    lines();
    kinds();
    sources();
    order();
    tokens();
    faults();
    doc.section("II");
    codes();
    roots();
    draws();
    births();
    ends();
    places();
    doc.section("III");
    frames();
    refusals();
    doc.nothingLeft(List.of("I", "II", "III"));
    finish();
  }

  // ---- I: the text ----

  private static final String WORLD = "world 1 1 1;";
  private static final String KIND = "kind life 1;";
  private static final String SOURCE = "source 0 at 0 0 0 from 0 every 1;";

  /** The number in place of # is let be from least to most, else it is fault 2 at its place. */
  private static void bounds(String text, int least, int most, java.util.function.ToIntFunction<NumberedSparks> shown) {
    for (int n : new int[] {least, most}) {
      NumberedSparks x = told(text.replace("#", "" + n));
      if (shown != null) due("what was told as " + n, shown.applyAsInt(x), n);
    }
    int at = text.indexOf('#');
    List<String> beyond = new ArrayList<>(List.of("" + (most + 1), "100000", "2147483647", "2147483648", "4294967296", "4294967297", "18446744073709551617", "9".repeat(60)));
    if (most + 1 > 100000) beyond.remove("100000");
    if (least > 0) beyond.add("" + (least - 1));
    for (String n : beyond) faulty(text.replace("#", n), 2, at);
  }

  private static void lines() {
    doc.says("TEXT: {LINE ;}.");
    faulty(WORLD + ";", 1, 12);
    faulty(";" + WORLD, 1, 0);
    faulty("world 1 1 1", 1, 11);
    faulty("world 1 1 1 kind life 1;", 1, 12);
    faulty(WORLD + "kind life 1", 1, 23);
    faulty(WORLD + "kind life 1 kind life 1;", 1, 24);
    faulty(WORLD + "seed 1", 1, 18);
    faulty(WORLD + KIND + "source 0 at 0 0 0 from 0 every 1", 1, 56);
    told(WORLD + "\n" + KIND + " \n ");
    doc.says("world is the first LINE and no other: 1 .. 40 CELLS each way (x, y, z).");
    faulty("seed 1;" + WORLD, 1, 0);
    faulty(KIND + WORLD, 1, 0);
    faulty(SOURCE, 1, 0);
    faulty(WORLD + WORLD, 1, 12);
    faulty(WORLD + KIND + WORLD, 1, 24);
    faulty(WORLD + "seed world 1 1 1;", 1, 17);
    bounds("world # 2 3;", 1, 40, x -> x.count(0));
    bounds("world 2 # 3;", 1, 40, x -> x.count(1));
    bounds("world 2 3 #;", 1, 40, x -> x.count(2));
    NumberedSparks most = told("world 40 40 40;" + KIND + "source 0 at 39 39 39 from 0 every 1;");
    for (int what = 0; what < 3; what++) due("place(0, 0, " + what + ")", most.place(0, 0, what), 316);
    doc.says("seed 0 .. 999999, once (0 without).");
    bounds(WORLD + "seed #;", 0, 999999, x -> x.count(5));
    faulty(WORLD + "seed 0;seed 0;", 3, 19);
    due("count(5)", told(WORLD).count(5), 0);
    due("mixed(1, 0)", told(WORLD).mixed(1, 0), mixed(0, 1, 0));
    // It may stand behind what draws by it.
    due("spark(0, 4)", told(WORLD + KIND + SOURCE + "seed 77;").spark(0, 4), draw(77, 0, 5, 8));
    doc.says("KINDS 0 .. 4, SOURCES 0 .. 3, numbered as they stand.");
    NumberedSparks x = told(WORLD + "kind life 1;source 0 at 0 0 0 from 5 every 1;kind life 2;source 1 at 0 0 0 from 6 every 1;kind life 3;kind life 4;kind life 5;"
      + "source 4 at 0 0 0 from 7 every 1;source 3 at 0 0 0 from 8 every 1;");
    for (int k = 0; k < 5; k++) due("kind(" + k + ", 0)", x.kind(k, 0), 1 + k);
    int[] kindOf = {0, 1, 4, 3};
    for (int s = 0; s < 4; s++) {
      due("source(" + s + ", 0)", x.source(s, 0), kindOf[s]);
      due("source(" + s + ", 4)", x.source(s, 4), 5 + s);
    }
    due("count(3)", x.count(3), 5);
    due("count(4)", x.count(4), 4);
    due("kind(5, 0)", x.kind(5, 0), -99);
    due("source(4, 0)", x.source(4, 0), -2);
  }

  private static void kinds() {
    doc.says("life 1 .. 40, vary 0 .. 20 (0), speed 0 .. 20 (0), falls 0 .. 9 either way (0), size 1 .. 9 (1)");
    bounds(WORLD + "kind life #;", 1, 40, x -> x.kind(0, 0));
    bounds(WORLD + "kind life 1 vary #;", 0, 20, x -> x.kind(0, 1));
    bounds(WORLD + "kind life 1 speed #;", 0, 20, x -> x.kind(0, 2));
    bounds(WORLD + "kind life 1 falls #;", 0, 9, x -> x.kind(0, 3));
    bounds(WORLD + "kind life 1 falls -#;", 0, 9, x -> -x.kind(0, 3));
    bounds(WORLD + "kind life 1 falls - #;", 0, 9, x -> -x.kind(0, 3));
    bounds(WORLD + "kind life 1 size #;", 1, 9, x -> x.kind(0, 4));
    int[] without = {1, 0, 0, 0, 1, 0, 0, -1};
    for (int what = 0; what < 8; what++) due("kind(0, " + what + ")", told(WORLD + KIND).kind(0, what), without[what]);
    doc.says("at the edge: wrap, bounce, ends (wrap without)");
    String[] edges = {"wrap", "bounce", "ends"};
    for (int i = 0; i < 3; i++) {
      due("kind(0, 5)", told(WORLD + "kind life 1 " + edges[i] + ";").kind(0, 5), i);
      for (String other : edges) faulty(WORLD + "kind life 1 " + edges[i] + " " + other + ";", 1, 25 + edges[i].length());
    }
    // Without it goes round: y 4, 4, 8 in a world of 8.
    due("place(0, 2, 1)", told(WORLD + "kind life 9 falls 4;" + SOURCE).place(0, 2, 1), 0);
    doc.says("childs 1 .. 2 of a KIND told ahead");
    bounds(WORLD + KIND + "kind life 1 childs # of 0;", 1, 2, x -> x.kind(1, 6));
    faulty(WORLD + "kind life 1 childs 1 of 0;", 2, 36);
    for (int k = 1; k < 5; k++) {
      bounds(WORLD + KIND.repeat(k) + "kind life 1 childs 1 of #;", 0, k - 1, lastChildKind(k));
      faulty(WORLD + KIND.repeat(k) + "kind life 1 childs 1 of " + k + ";" + (k < 4 ? KIND : ""), 2, 36 + 12 * k);
    }
  }

  private static java.util.function.ToIntFunction<NumberedSparks> lastChildKind(int k) { return x -> x.kind(k, 7); }

  private static void sources() {
    doc.says("K of a source a KIND told ahead");
    faulty(WORLD + SOURCE, 2, 19);
    faulty(WORLD + SOURCE + KIND, 2, 19);
    for (int k = 1; k <= 5; k++) bounds(WORLD + KIND.repeat(k) + "source # at 0 0 0 from 0 every 1;", 0, k - 1, x -> x.source(0, 0));
    doc.says("X, Y, Z a CELL");
    String world = "world 1 7 40;";
    bounds(world + KIND + "source 0 at # 0 0 from 0 every 1;", 0, 0, x -> x.source(0, 1));
    bounds(world + KIND + "source 0 at 0 # 0 from 0 every 1;", 0, 6, x -> x.source(0, 2));
    bounds(world + KIND + "source 0 at 0 0 # from 0 every 1;", 0, 39, x -> x.source(0, 3));
    doc.says("T 0 .. 9999, P 1 .. 99, B 1 .. 5 (1), U 0 .. 9999 (9999), J 0 .. 20 (0).");
    String ahead = WORLD + KIND + "source 0 at 0 0 0 from ";
    bounds(ahead + "# every 1;", 0, 9999, x -> x.source(0, 4));
    bounds(ahead + "0 every #;", 1, 99, x -> x.source(0, 5));
    bounds(ahead + "0 every 1 burst #;", 1, 5, x -> x.source(0, 6));
    bounds(ahead + "0 every 1 until #;", 0, 9999, x -> x.source(0, 7));
    bounds(ahead + "0 every 1 jitter #;", 0, 20, x -> x.source(0, 8));
    int[] without = {1, 9999, 0};
    for (int what = 6; what < 9; what++) due("source(0, " + what + ")", told(WORLD + KIND + SOURCE).source(0, what), without[what - 6]);
  }

  private static void order() {
    doc.says("What stands in [ ] stands in this order.");
    inOrder(WORLD + KIND + "kind life 1", "vary 1", "speed 1", "falls 1", "size 1", "wrap", "childs 1 of 0");
    inOrder(WORLD + KIND + "kind life 1", "vary 1", "speed 1", "falls - 1", "size 1", "bounce", "childs 1 of 0");
    inOrder(WORLD + KIND + "source 0 at 0 0 0 from 0 every 1", "burst 1", "until 1", "jitter 1");
    told(WORLD + KIND + "kind life 1 vary 1 speed 1 falls 1 size 1 ends childs 1 of 0;source 1 at 0 0 0 from 0 every 1 burst 1 until 1 jitter 1;");
    fits("", "world", "1", "1", "1", ";");
    fits(WORLD, "seed", "1", ";");
    fits(WORLD, "kind", "life", "1", ";");
    fits(WORLD + KIND, "kind", "life", "1", "childs", "1", "of", "0", ";");
    fits(WORLD + KIND, "source", "0", "at", "0", "0", "0", "from", "0", "every", "1", ";");
    // What may stand needs its number.
    for (String word : List.of("vary", "speed", "falls", "falls -", "size", "childs")) faulty(WORLD + "kind life 1 " + word + ";", 1, 24 + word.length());
    for (String word : List.of("burst", "until", "jitter")) faulty(WORLD + KIND + "source 0 at 0 0 0 from 0 every 1 " + word + ";", 1, 57 + word.length());
    for (String word : List.of("vary -1", "speed -1", "size -1")) faulty(WORLD + "kind life 1 " + word + ";", 1, 24 + word.indexOf('-'));
  }

  private static void inOrder(String ahead, String... may) {
    for (int i = 0; i < may.length; i++) {
      told(ahead + " " + may[i] + ";");
      for (int j = 0; j < may.length; j++) {
        String text = ahead + " " + may[i] + " " + may[j] + ";";
        if (i < j) told(text);
        else faulty(text, 1, ahead.length() + 2 + may[i].length());
      }
    }
  }

  private static boolean alike(String token, String other) {
    return token.equals(other) || Character.isDigit(token.charAt(0)) && Character.isDigit(other.charAt(0));
  }

  /** Each token must stand, once, where it stands: left out, told twice or in place of another it is fault 1. */
  private static void fits(String ahead, String... tokens) {
    List<List<String>> wrong = new ArrayList<>();
    for (int i = 0; i < tokens.length; i++) {
      for (String other : List.of("?", "-", "x", "of", "1", ";", "world", "life")) {
        List<String> text = new ArrayList<>(Arrays.asList(tokens));
        // A line may end ahead of what may stand.
        if (!alike(text.set(i, other), other) && !(tokens[i].equals("childs") && other.equals(";"))) wrong.add(text);
      }
      List<String> less = new ArrayList<>(Arrays.asList(tokens));
      less.remove(i);
      wrong.add(less);
      List<String> more = new ArrayList<>(Arrays.asList(tokens));
      more.add(i, tokens[i]);
      wrong.add(more);
    }
    for (List<String> text : wrong) {
      int i = 0;
      while (i < text.size() && i < tokens.length && alike(text.get(i), tokens[i])) i++;
      int at = ahead.length() + (i == 0 ? 0 : String.join(" ", text.subList(0, i)).length() + 1);
      String whole = ahead + String.join(" ", text) + " ";
      // Nothing of a line is no fault, nor is what may stand behind life's number.
      if (i == text.size() && i == 0 && !ahead.isEmpty() || i < text.size() && text.get(i).equals("childs")) continue;
      faulty(whole, 1, i == text.size() ? whole.length() : at);
    }
  }

  private static void tokens() {
    doc.says("TOKENS, blanks (32, 10) aside, the longest: words (a .. z), numbers (digits), else single bytes.");
    for (int b = 0; b < 256; b++) {
      String sign = "" + (char) b;
      boolean blank = b == 32 || b == 10;
      if (blank) told(WORLD + sign + "seed 5;" + sign);
      else faulty(WORLD + sign + "seed 5;", 1, 12);
      if (blank) told("world 1" + sign + "1 1;");
      else if (b >= '0' && b <= '9') faulty("world 1" + sign + "1 1;", 2, 6);
      else faulty("world 1" + sign + "1 1;", 1, 7);
      if (!blank && (b < 'a' || b > 'z')) faulty("world 1 1 1" + sign + (b == ';' ? "1;" : ""), 1, b >= '0' && b <= '9' ? 12 : b == ';' ? 12 : 11);
    }
    told("world1 1 1;kind life1vary1speed1falls-1size1wrap;kind life1childs1of0;source1at0 0 0from0every1burst1until1jitter1;seed1;");
    told("\n world\n1 1\n\n1 ; seed 3\n;\n");
    faulty("worlds 1 1 1;", 1, 0);
    faulty("wor ld 1 1 1;", 1, 0);
    faulty("World 1 1 1;", 1, 0);
    faulty(WORLD + "kindlife 1;", 1, 12);
    faulty(WORLD + "kind lifevary 1;", 1, 17);
    faulty(WORLD + "kind life 4 1;", 1, 24);
    due("kind(0, 0)", told(WORLD + "kind life " + "0".repeat(50) + "40;").kind(0, 0), 40);
    due("count(5)", told(WORLD + "seed 000;").count(5), 0);
    due("kind(0, 3)", told(WORLD + "kind life 1 falls\n-\n9;").kind(0, 3), -9);
    faulty(WORLD + "kind life 1 falls --9;", 1, 31);
    faulty(WORLD + "kind life 1 falls 9-;", 1, 31);
    // A number has no sign, and no end but that of its digits.
    faulty(WORLD + "seed +1;", 1, 17);
    faulty(WORLD + "seed 1.5;", 1, 18);
    faulty(WORLD + "seed 1e5;", 1, 18);
  }

  private static void faults() {
    doc.says("FAULTS, of several the one whose first byte (a TOKEN's; the end's) is least");
    faulty("world 41 1 1 x", 2, 6);
    faulty("world x 41 1;", 1, 6);
    faulty("world 1 41 0;", 2, 8);
    faulty("world 41 1 1", 2, 6);
    faulty(WORLD + "seed 1;seed 1000000;", 3, 19);
    faulty(WORLD + "seed 1000000;seed 1;", 2, 17);
    faulty(WORLD + "kind life 0;#", 2, 22);
    faulty(WORLD + "#kind life 0;", 1, 12);
    faulty(WORLD + KIND.repeat(5) + "kind life 0;", 3, 72);
    faulty(WORLD + KIND.repeat(5) + "kind life", 3, 72);
    faulty(WORLD + "kind life 0 vary 21 speed 21;", 2, 22);
    faulty(WORLD + KIND + SOURCE.repeat(4) + "source 1 at 1 1 1;", 3, 156);
    doc.says("of one byte the least number");
    faulty(WORLD + "seed 1;kind life 1 seed 2;", 1, 31);
    faulty(WORLD + "seed 1;seed seed 2;", 3, 19);
    faulty(WORLD + KIND.repeat(5) + "seed kind life 1;", 1, 77);
    faulty(WORLD + KIND + SOURCE.repeat(4) + "seed source 0;", 1, 161);
    faulty("world 1 1 1 99;", 1, 12);
    faulty(WORLD + "1000000;", 1, 12);
    faulty(WORLD + "seed 1 1000000;", 1, 19);
    doc.says("1 a TOKEN that is none, or can't stand there (the end ahead of a world, too).");
    faulty("", 1, 0);
    faulty(" ", 1, 1);
    faulty("\n \n", 1, 3);
    faulty(" ".repeat(500), 1, 500);
    faulty("#", 1, 0);
    faulty("  #", 1, 2);
    prefixes(WORLD + "seed 7;kind life 3 vary 1 speed 2 falls -3 size 4 ends;kind life 5 bounce childs 2 of 0;"
      + "source 1 at 0 0 0 from 6 every 7 burst 3 until 8 jitter 9;");
    doc.says("2 a number out of its bounds (a KIND that is not told ahead, too).");
    faulty("world 0 1 1;", 2, 6);
    faulty(WORLD + KIND + "kind life 1 childs 1 of 1;", 2, 48);
    faulty(WORLD + KIND + "source 1 at 0 0 0 from 0 every 1;" + KIND, 2, 31);
    doc.says("3 a sixth kind, a fifth source, seed told again, at the word.");
    told(WORLD + KIND.repeat(5));
    faulty(WORLD + KIND.repeat(6), 3, 72);
    told(WORLD + KIND + SOURCE.repeat(4));
    faulty(WORLD + KIND + SOURCE.repeat(5), 3, 156);
    told(WORLD + "seed 1;");
    faulty(WORLD + "seed 1;" + KIND + "  seed 1;", 3, 33);
    faulty(WORLD + KIND.repeat(5) + "\n\nkind", 3, 74);
  }

  /** Cut off anywhere: a cut word can't stand, else the end can't, but behind a whole line. */
  private static void prefixes(String text) {
    for (int n = 0; n < text.length(); n++) {
      String cut = text.substring(0, n);
      boolean inWord = n > 0 && Character.isLetter(text.charAt(n - 1)) && Character.isLetter(text.charAt(n));
      int word = n;
      while (word > 0 && Character.isLetter(text.charAt(word - 1))) word--;
      if (cut.endsWith(";")) told(cut);
      else faulty(cut, 1, inWord ? word : n);
    }
  }

  // ---- II: sparks ----

  private static void codes() {
    doc.says("CODE of a SPARK: 256 times its ROOT and its PATH. ROOT of number k of SOURCE s: 4 k and s.");
    String five = "source 0 at 0 0 0 from 0 every 1 burst 5 until 0;";
    NumberedSparks x = told(WORLD + KIND + five.repeat(4));
    for (int s = 0; s < 4; s++)
      for (int k = -1; k <= 5; k++) {
        int code = 256 * (4 * k + s);
        due("is(" + code + ")", x.is(code), k >= 0 && k < 5 ? 1 : 0);
        due("spark(" + code + ", 1)", x.spark(code, 1), k >= 0 && k < 5 ? s : -99);
        due("spark(" + code + ", 2)", x.spark(code, 2), k >= 0 && k < 5 ? k : -99);
      }
    NumberedSparks two = told(WORLD + KIND + five.repeat(2));
    for (int s = 0; s < 4; s++) due("is(" + 256 * s + ")", two.is(256 * s), s < 2 ? 1 : 0);
    doc.says("PATH: of a ROOT's own SPARK 0; of its child c (0, 1) 16 times (1 and c); of a grandchild that of its parent and (1 and c). Grandchildren have no children.");
    // Kind 4 has two of 3, and so on to 1: a fourth generation there would be, if there were one.
    String deep = KIND + "kind life 1 childs 2 of 0;kind life 1 childs 2 of 1;kind life 1 childs 2 of 2;kind life 1 childs 2 of 3;";
    NumberedSparks z = told(WORLD + deep + "source 4 at 0 0 0 from 0 every 1 until 0;");
    List<Integer> paths = List.of(0, 16, 32, 17, 18, 33, 34);
    for (int path = 0; path < 256; path++) due("is(" + path + ")", z.is(path), paths.contains(path) ? 1 : 0);
    for (int path : paths) {
      int generation = path == 0 ? 0 : path % 16 == 0 ? 1 : 2;
      due("spark(" + path + ", 3)", z.spark(path, 3), generation);
      due("spark(" + path + ", 0)", z.spark(path, 0), 4 - generation);
      for (int c = 0; c < 2; c++) due("child(" + path + ", " + c + ")", z.child(path, c), generation == 0 ? 16 * (1 + c) : generation == 1 ? path + 1 + c : -1);
    }
    due("line(0, 0)", z.line(0, 0), 7);
    due("endings(0, 300)", z.endings(0, 300), 7);
    due("many(3, -1)", z.many(3, -1), 0);
  }

  private static void roots() {
    doc.says("SPARKS that ARE: own ones of k, 0 and more, of which T and (k by B, cut) times P is no more than U");
    // T, P, B, U, and how many.
    int[][] table = {{5, 3, 1, 4, 0}, {5, 3, 1, 5, 1}, {5, 3, 1, 7, 1}, {5, 3, 1, 8, 2}, {5, 3, 1, 9, 2}, {5, 3, 2, 4, 0}, {5, 3, 2, 5, 2}, {5, 3, 2, 7, 2}, {5, 3, 2, 8, 4},
      {0, 1, 1, 0, 1}, {0, 1, 5, 0, 5}, {0, 99, 5, 98, 5}, {0, 99, 5, 99, 10}, {1, 1, 1, 0, 0}, {9999, 1, 1, 9999, 1}, {9999, 1, 5, 9999, 5}, {9999, 1, 5, 9998, 0},
      {0, 1, 5, 9999, 50000}, {0, 1, 1, 9999, 10000}, {0, 99, 1, 9999, 102}, {9998, 1, 3, 9999, 6}};
    for (int[] w : table) {
      NumberedSparks x = told(WORLD + KIND + "source 0 at 0 0 0 from " + w[0] + " every " + w[1] + " burst " + w[2] + " until " + w[3] + ";");
      due("source(0, 9)", x.source(0, 9), w[4]);
      due("is of the last one", x.is(1024 * (w[4] - 1)), w[4] > 0 ? 1 : 0);
      due("is of one more", x.is(1024 * w[4]), 0);
      due("births(0, 0, 30001)", x.births(0, 0, 30001), w[4]);
    }
    // A jitter that goes beyond U does not matter.
    NumberedSparks late = told(WORLD + "kind life 1;source 0 at 0 0 0 from 0 every 1 burst 5 until 0 jitter 20;");
    due("source(0, 9)", late.source(0, 9), 5);
    due("births(0, 0, 21)", late.births(0, 0, 21), 5);
    doc.says("children of these, as many as their KIND has, theirs likewise.");
    for (int first = 0; first <= 2; first++)
      for (int second = 0; second <= 2; second++) {
        NumberedSparks x = told(WORLD + KIND + "kind life 1" + (second > 0 ? " childs " + second + " of 0;" : ";") + "kind life 1" + (first > 0 ? " childs " + first + " of 1;" : ";")
          + "source 2 at 0 0 0 from 0 every 1 until 0;");
        for (int path = 1; path < 64; path++) {
          boolean child = path / 16 >= 1 && path / 16 <= first;
          due("is(" + path + ")", x.is(path), child && path % 16 <= second ? 1 : 0);
        }
        due("is(1024 + 16)", x.is(1040), 0);
      }
  }

  private static void draws() {
    doc.says("MIXED (longs, which go round): z: seed and CODE times -7046029254386353131 and SALT times -3335678366873096957; z becomes (z xor z shifted right by 30) times "
      + "-4658895280553007687; then (z xor z shifted by 27) times -7723592293110705685; then z xor z shifted by 31 (without sign each).");
    NumberedSparks x = told(WORLD + "seed 999999;");
    int[] some = {0, 1, -1, 1 << 16, Integer.MIN_VALUE, Integer.MAX_VALUE, 51199999};
    for (int code : some)
      for (int salt : some) due("mixed(" + code + ", " + salt + ")", x.mixed(code, salt), mixed(999999, code, salt));
    // Worked out elsewhere: the first outputs of the generator named splitmix64, seed 0, and of seed 1.
    NumberedSparks zero = told(WORLD);
    due("mixed(1, 0)", zero.mixed(1, 0), 0xE220A8397B1DCDAFL);
    due("mixed(2, 0)", zero.mixed(2, 0), 0x6E789E6AA1B965F4L);
    zero.seed(1);
    due("mixed(1, 0) of seed 1", zero.mixed(1, 0), 0x910A2DEC89025CC1L);
    doc.says("DRAW of n by SALT: MIXED shifted right by 33 (without sign) modulo n.");
    NumberedSparks many = told(WORLD + "seed 9;" + KIND + "source 0 at 0 0 0 from 0 every 1 burst 5;");
    boolean negative = false, positive = false;
    int[] seen = new int[8];
    for (int k = 0; k < 200; k++) {
      long z = mixed(9, 1024L * k, 5);
      negative |= z < 0;
      positive |= z > 0;
      int colour = new java.math.BigInteger(Long.toUnsignedString(z)).shiftRight(33).mod(java.math.BigInteger.valueOf(8)).intValue();
      seen[colour]++;
      due("spark(" + 1024 * k + ", 4)", many.spark(1024 * k, 4), colour);
    }
    due("numbers of both signs were there", negative && positive ? 1 : 0, 1);
    for (int colour = 0; colour < 8; colour++) due("colour " + colour + " was there", seen[colour] > 0 ? 1 : 0, 1);
    doc.says("SALTS: 0 when, 1 life, 2, 3, 4 speed (x, y, z), 5 colour.");
    // 200 roots in 40 bursts: each draw has its least and its most.
    NumberedSparks y = told("world 40 40 40;seed 12;kind life 5 vary 20 speed 20;source 0 at 20 20 20 from 100 every 10 burst 5 until 490 jitter 20;");
    int[][] ends = new int[5][2];
    int[] whats = {5, 6, 7, 8, 9};
    for (int k = 0; k < 200; k++) {
      int code = 1024 * k, planned = 100 + k / 5 * 10, born = y.spark(code, 5);
      int[] drawn = {born - planned, y.spark(code, 6) - born - 5, y.spark(code, 7) + 20, y.spark(code, 8) + 20, y.spark(code, 9) + 20};
      for (int i = 0; i < 5; i++) {
        int n = i < 2 ? 21 : 41;
        due("the draw in spark(" + code + ", " + whats[i] + ")", drawn[i], draw(12, code, i, n));
        if (drawn[i] == 0) ends[i][0]++;
        if (drawn[i] == n - 1) ends[i][1]++;
      }
      if (k % 40 == 39) y = told("world 40 40 40;seed 12;kind life 5 vary 20 speed 20;source 0 at 20 20 20 from 100 every 10 burst 5 until 490 jitter 20;");
    }
    for (int i = 0; i < 5; i++) due("least and most of draw " + i + " were there", Math.min(ends[i][0], ends[i][1]) > 0 ? 1 : 0, 1);
  }

  private static void births() {
    doc.says("BORN: a ROOT's own in TICK T and (k by B, cut) times P and a DRAW of J and 1; a child in the TICK in which its parent ENDS.");
    NumberedSparks x = told(WORLD + "kind life 2;kind life 3 childs 1 of 0;kind life 4 childs 2 of 1;source 2 at 0 0 0 from 7 every 5 burst 3 until 17 jitter 0;");
    for (int k = 0; k < 9; k++) {
      int code = 1024 * k, born = 7 + k / 3 * 5;
      due("spark(" + code + ", 5)", x.spark(code, 5), born);
      due("spark(" + (code + 32) + ", 5)", x.spark(code + 32, 5), born + 4);
      due("spark(" + (code + 33) + ", 5)", x.spark(code + 33, 5), born + 7);
      due("spark(" + (code + 33) + ", 6)", x.spark(code + 33, 6), born + 9);
    }
    // The edge ends the parent in tick 4: y 4, 4, 6, 10, 16.
    NumberedSparks cut = told("world 2 2 2;kind life 6;kind life 9 falls 2 ends childs 1 of 0;source 1 at 0 0 0 from 0 every 9 until 0;");
    due("spark(16, 5)", cut.spark(16, 5), 4);
    due("place(16, 4, 1)", cut.place(16, 4, 1), 10);
    due("many(4, 0)", cut.many(4, 0), 1);
    due("many(4, 1)", cut.many(4, 1), 0);
    // A jitter of 1 is a draw of 2.
    NumberedSparks coin = told(WORLD + KIND + "source 0 at 0 0 0 from 0 every 1 burst 5 jitter 1;");
    for (int k = 0; k < 50; k++) due("spark(" + 1024 * k + ", 5)", coin.spark(1024 * k, 5), k / 5 + draw(0, 1024 * k, 0, 2));
    doc.says("LIFE: life and a DRAW of vary and 1.");
    NumberedSparks vary1 = told(WORLD + "kind life 3 vary 1;source 0 at 0 0 0 from 0 every 1 burst 5;");
    for (int k = 0; k < 50; k++) due("spark(" + 1024 * k + ", 6)", vary1.spark(1024 * k, 6), k / 5 + 3 + draw(0, 1024 * k, 1, 2));
    for (int life : new int[] {1, 40}) due("spark(0, 6)", told(WORLD + "kind life " + life + ";" + SOURCE).spark(0, 6), life);
    NumberedSparks vary = told(WORLD + "kind life 40 vary 20;source 0 at 0 0 0 from 0 every 1 burst 5;");
    for (int k = 0; k < 100; k++) due("spark(" + 1024 * k + ", 6)", vary.spark(1024 * k, 6), k / 5 + 40 + draw(0, 1024 * k, 1, 21));
    doc.says("It is there in TICKS from that in which it is BORN up to the one ahead of that in which it ENDS: BORN and LIFE");
    NumberedSparks one = told(WORLD + "kind life 1;source 0 at 0 0 0 from 9 every 1 until 9;");
    for (int t = 7; t < 12; t++) {
      due("many(" + t + ", -1)", one.many(t, -1), t == 9 ? 1 : 0);
      due("place(0, " + t + ", 0)", one.place(0, t, 0), t == 9 ? 4 : -1);
    }
    NumberedSparks forty = told(WORLD + "kind life 40;source 0 at 0 0 0 from 9 every 1 until 9;");
    for (int t : new int[] {8, 9, 48, 49}) due("many(" + t + ", -1)", forty.many(t, -1), t == 9 || t == 48 ? 1 : 0);
  }

  /** y: 4, 4, 4 and f, 4 and 3 f, .. in a world of one cell. */
  private static NumberedSparks falling(int f, String edge, int life) {
    return told(WORLD + "kind life " + life + " falls " + (f < 0 ? "-" + -f : "" + f) + " " + edge + ";source 0 at 0 0 0 from 100 every 1 until 100;");
  }

  private static void ends() {
    doc.says("of a KIND that ends at the edge the first TICK, if that comes sooner, in which it would be beyond.");
    // 8 in age 2 is beyond, and would be sooner than a life of 3.
    for (int life = 1; life <= 5; life++) due("spark(0, 6)", falling(4, "ends", life).spark(0, 6), 100 + Math.min(life, 2));
    for (int life = 1; life <= 5; life++) due("spark(0, 6)", falling(4, "wrap", life).spark(0, 6), 100 + life);
    for (int life = 1; life <= 5; life++) due("spark(0, 6)", falling(4, "bounce", life).spark(0, 6), 100 + life);
    doc.says("ends: beyond is what is below 0 or not below the world's.");
    // Ages: 8 in 2; 7 in 2, 13 in 3; 0 in 2, -8 in 3; -1 in 2; never.
    int[][] sides = {{4, 2}, {3, 3}, {-4, 3}, {-5, 2}, {9, 2}, {-9, 2}, {1, 4}, {-1, 4}, {0, 40}};
    for (int[] w : sides) due("spark(0, 6) with falls " + w[0], falling(w[0], "ends", 40).spark(0, 6), 100 + w[1]);
    slowEnds();
    boolean[] sideSeen = new boolean[6];
    boolean atWorld = false, atZero = false, atLast = false;
    int[] world = {16, 24, 32}, begins = {4, 12, 20};
    for (int seed = 0; seed < 20; seed++) {
      NumberedSparks x = told("world 2 3 4;seed " + seed + ";kind life 12 speed 9 ends;source 0 at 0 1 2 from 0 every 1 burst 5 until 19;");
      for (int k = 0; k < 100; k++) {
        int code = 1024 * k, stay = 12;
        for (int a = 1; a < stay; a++)
          for (int axis = 0; axis < 3; axis++) {
            int at = begins[axis] + a * (draw(seed, code, 2 + axis, 19) - 9);
            if (at < 0 || at >= world[axis]) { stay = Math.min(stay, a); sideSeen[2 * axis + (at < 0 ? 0 : 1)] = true; atWorld |= at == world[axis]; }
            atZero |= at == 0;
            atLast |= at == world[axis] - 1;
          }
        due("spark(" + code + ", 6) of seed " + seed, x.spark(code, 6), k / 5 + stay);
      }
    }
    for (int side = 0; side < 6; side++) due("some went over side " + side, sideSeen[side] ? 1 : 0, 1);
    due("some came to 0, to the world's, to one less", atWorld && atZero && atLast ? 1 : 0, 1);
  }

  /** One eighth a tick at most: from 4 it is beyond a world of 8 in age 4 upwards, in age 5 downwards. */
  private static void slowEnds() {
    int[] seen = new int[3];
    for (int seed = 0; seed < 20; seed++) {
      int age = 40;
      for (int axis = 0; axis < 3; axis++) {
        int speed = draw(seed, 0, 2 + axis, 3) - 1;
        age = Math.min(age, speed == 0 ? 40 : speed > 0 ? 4 : 5);
      }
      NumberedSparks x = told(WORLD + "seed " + seed + ";kind life 40 speed 1 ends;source 0 at 0 0 0 from 0 every 1 until 0;");
      due("spark(0, 6) of seed " + seed, x.spark(0, 6), age);
      seen[age == 40 ? 2 : age - 4]++;
    }
    due("some went up, some down", Math.min(seen[0], seen[1]) > 0 ? 1 : 0, 1);
  }

  /** Where it would be, brought back by its edge; NONE, if it is beyond and ends there. */
  private static int brought(int at, int world, String edge) {
    if (edge.equals("ends")) return at < 0 || at >= world ? -1 : at;
    int m = Math.floorMod(at, edge.equals("wrap") ? world : 2 * world);
    return m < world ? m : 2 * world - 1 - m;
  }

  /** Three generations that fly, fall and come to the edges, far from tick 0: each begins where the one ahead of it was last. */
  private static void generations(String edge, int seed) {
    int[] world = {24, 32, 40}, begins = {12, 20, 28};
    String kind = "kind life 3 vary 5 speed 9 falls -2 " + edge;
    NumberedSparks x = told("world 3 4 5;seed " + seed + ";" + kind + ";" + kind + " childs 1 of 0;" + kind + " childs 2 of 1;source 2 at 1 2 3 from 50 every 1 until 50;");
    int born = 50;
    for (int code : new int[] {0, 32, 33}) {
      int life = 3 + draw(seed, code, 1, 6), age = 0;
      int[] last = begins;
      for (; age < life; age++) {
        int[] here = new int[3];
        for (int axis = 0; axis < 3; axis++)
          here[axis] = brought(begins[axis] + age * (draw(seed, code, 2 + axis, 19) - 9) - (axis == 1 ? age * (age - 1) : 0), world[axis], edge);
        if (Math.min(here[0], Math.min(here[1], here[2])) < 0) break;
        for (int axis = 0; axis < 3; axis++) due("place(" + code + ", " + (born + age) + ", " + axis + ")", x.place(code, born + age, axis), here[axis]);
        last = here;
      }
      due("spark(" + code + ", 5)", x.spark(code, 5), born);
      due("spark(" + code + ", 6)", x.spark(code, 6), born + age);
      due("place(" + code + ", " + (born + age) + ", 0)", x.place(code, born + age, 0), -1);
      begins = last;
      born += age;
    }
  }

  private static void places() {
    doc.says("PLACE in TICK BORN and a, in EIGHTHS of a CELL: x, y, z each: where it begins, and a times speed, and of y falls times a times (a less 1) by 2 more.");
    NumberedSparks fall = told("world 40 40 40;seed 3;kind life 9 speed 4 falls 3;source 0 at 20 20 20 from 0 every 1 until 0;");
    for (int what = 0; what < 3; what++)
      for (int a = 0; a < 9; a++)
        due("place(0, " + a + ", " + what + ")", fall.place(0, a, what), 164 + a * (draw(3, 0, 2 + what, 9) - 4) + (what == 1 ? 3 * a * (a - 1) / 2 : 0));
    doc.says("Speed: a DRAW of twice its KIND's and 1, less that of its KIND.");
    for (int what = 7; what < 10; what++) due("spark(0, " + what + ") without speed", told(STILL).spark(0, what), 0);
    doc.says("It begins: a ROOT's own at 8 times its CELL and 4, a child where its parent was in its last TICK.");
    int[] begins = {4, 12, 20};
    NumberedSparks at = told("world 1 2 3;kind life 1;kind life 1 childs 1 of 0;source 1 at 0 1 2 from 0 every 1 until 0;");
    for (int what = 0; what < 3; what++) {
      due("place(0, 0, " + what + ")", at.place(0, 0, what), begins[what]);
      due("place(16, 1, " + what + ")", at.place(16, 1, what), begins[what]);
    }
    // The parent's last place, gone round (4, 4, 8 is 0) or thrown back (7), not where it would be next.
    for (int life = 1; life <= 4; life++) {
      String text = WORLD + "kind life 5;kind life " + life + " falls 4 EDGE childs 1 of 0;source 1 at 0 0 0 from 0 every 1 until 0;";
      due("place(16, " + life + ", 1)", told(text.replace("EDGE", "wrap")).place(16, life, 1), new int[] {4, 4, 0, 0}[life - 1]);
      due("place(16, " + life + ", 1)", told(text.replace("EDGE", "bounce")).place(16, life, 1), new int[] {4, 4, 7, 0}[life - 1]);
    }
    for (String edge : List.of("wrap", "bounce", "ends"))
      for (int seed = 0; seed < 12; seed++) generations(edge, seed);
    doc.says("wrap: modulo the world's (8 times its CELLS; 0 and above)");
    // Without edges: 4, 4, 8, 16, 28, 44, 64; 4, 4, 0, -8, -20, -36, -56; 4, 4, -1, -11, -26; 4, 4, 7, 13, 22.
    int[] falls = {4, -4, -5, 3};
    int[][] round = {{4, 4, 0, 0, 4, 4, 0}, {4, 4, 0, 0, 4, 4, 0}, {4, 4, 7, 5, 6}, {4, 4, 7, 5, 6}};
    for (int i = 0; i < 4; i++)
      for (int a = 0; a < round[i].length; a++) due("place(0, " + (100 + a) + ", 1) with falls " + falls[i], falling(falls[i], "wrap", 40).place(0, 100 + a, 1), round[i][a]);
    doc.says("bounce: modulo twice that, what is not below that once: twice that less 1 less it");
    int[][] back = {{4, 4, 7, 0, 3, 3, 0}, {4, 4, 0, 7, 3, 3, 7}, {4, 4, 0, 5, 6}, {4, 4, 7, 2, 6}};
    for (int i = 0; i < 4; i++)
      for (int a = 0; a < back[i].length; a++) due("place(0, " + (100 + a) + ", 1) with falls " + falls[i], falling(falls[i], "bounce", 40).place(0, 100 + a, 1), back[i][a]);
    farOut();
    doc.says("CELL of a PLACE: EIGHTHS by 8.");
    // y 7 in tick 102 is in cell 0, y 8 in cell 1.
    for (int f = 3; f <= 4; f++) {
      NumberedSparks x = told("world 1 2 1;kind life 5 falls " + f + ";source 0 at 0 0 0 from 100 every 1 until 100;");
      due("inColumn(102, 0, 0)", x.inColumn(102, 0, 0), f == 3 ? 1 : 0);
      due("inColumn(102, 0, 1)", x.inColumn(102, 0, 1), f == 4 ? 1 : 0);
      due("box(102, 4)", x.box(102, 4), f - 3);
    }
  }

  /** The oldest and fastest that there can be, in the smallest world and the greatest, all three ways. */
  private static void farOut() {
    for (int cells : new int[] {1, 40})
      for (int falls : new int[] {9, -9})
        for (String edge : List.of("wrap", "bounce")) {
          NumberedSparks x = told("world " + cells + " " + cells + " " + cells + ";kind life 40 vary 20 speed 20 falls " + falls + " " + edge + ";source 0 at 0 0 0 from 0 every 1 burst 5 until 3;");
          for (int k = 0; k < 20; k++)
            for (int what = 0; what < 3; what++) {
              int last = x.spark(1024 * k, 6) - 1, a = last - k / 5;
              int at = 4 + a * (draw(0, 1024 * k, 2 + what, 41) - 20) + (what == 1 ? falls * a * (a - 1) / 2 : 0);
              int m = Math.floorMod(at, edge.equals("wrap") ? 8 * cells : 16 * cells);
              due("place(" + 1024 * k + ", " + last + ", " + what + ")", x.place(1024 * k, last, what), m < 8 * cells ? m : 16 * cells - 1 - m);
            }
        }
  }

  // ---- III: frames, refusals ----

  private static void frames() {
    doc.says("FRAME of a TICK (0 .. 30000): all SPARKS that are there, the greatest z first, of like ones the least CODE.");
    NumberedSparks x = told(DEPTH);
    int[] order = {0, 256, 512, 1280, 2304, 768, 1792, 2816, 3840, -1};
    for (int k = 0; k < order.length; k++) due("drawn(2, " + k + ")", x.drawn(2, k), order[k]);
    due("many(0, -1)", x.many(0, -1), 4);
    due("many(30000, -1)", x.many(30000, -1), 0);
    due("many(30001, -1)", x.many(30001, -1), -2);
    due("many(-1, -1)", x.many(-1, -1), -2);
    // By eighths, though all are in one cell.
    NumberedSparks near = told("world 9 9 1;seed 5;kind life 2 speed 3;source 0 at 4 4 0 from 0 every 1 burst 5 until 0;");
    boolean unlike = false;
    for (int k = 0; k + 1 < 5; k++) {
      int code = near.drawn(1, k), next = near.drawn(1, k + 1), z = near.place(code, 1, 2), nextZ = near.place(next, 1, 2);
      due("drawn(1, " + k + ") is ahead of the next", z > nextZ || z == nextZ && code < next ? 1 : 0, 1);
      unlike |= z > nextZ;
    }
    due("some were unlike", unlike ? 1 : 0, 1);
    doc.says("On top in a column (x, y) is the one with the least z, of like ones the greatest CODE.");
    due("top(2, 0, 0)", x.top(2, 0, 0), 2304);
    due("top(2, 2, 0)", x.top(2, 2, 0), 3840);
    due("top(5, 0, 0)", x.top(5, 0, 0), 0);
    oneCell();
  }

  /** Of sparks in one cell the one with the least z is on top, by eighths too. */
  private static void oneCell() {
    int deeperButGreater = 0;
    for (int seed = 0; seed < 30; seed++) {
      NumberedSparks x = told("world 1 1 3;seed " + seed + ";kind life 2 speed 3;source 0 at 0 0 1 from 0 every 1 burst 3 until 0;");
      int best = -1;
      for (int code = 0; code <= 2048; code += 1024)
        if (best < 0 || x.place(code, 1, 2) <= x.place(best, 1, 2)) best = code;
      due("top(1, 0, 0) of seed " + seed, x.top(1, 0, 0), best);
      if (best < 2048 && x.place(best, 1, 2) / 8 == x.place(2048, 1, 2) / 8) deeperButGreater++;
    }
    due("some with a greater code lay deeper in the same cell", deeperButGreater > 0 ? 1 : 0, 1);
  }

  private static void refusals() {
    doc.says("-2 (where nothing else is told): there is no SCENE, no such KIND, SOURCE, SPARK (CODE), TICK, CELL, what, number as told; ahead of NONE.");
    for (String shape : Refusals.CALLS) Refusals.test(shape.substring(0, shape.indexOf(' ')));
    for (String shape : Refusals.CALLS) {
      String name = shape.substring(0, shape.indexOf(' '));
      Refusals.testWithout(name, new NumberedSparks());
      // A text with a fault behind its kinds and sources makes no scene either.
      NumberedSparks x = new NumberedSparks();
      feedText(x, Refusals.TEXT + "x");
      due("scene() with a fault", x.scene(), -4);
      Refusals.testWithout(name, x);
    }
  }
}
