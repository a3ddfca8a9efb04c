import java.util.ArrayList;
import java.util.Arrays;
import java.util.Comparator;
import java.util.HashMap;
import java.util.HashSet;
import java.util.LinkedHashMap;
import java.util.List;
import java.util.Map;
import java.util.Set;
import java.util.stream.Collectors;
import java.util.stream.IntStream;
import java.util.stream.Stream;

/**
 * The document told once more in its plainest form: every spark of a scene is
 * made at once, with its place in each tick, and each call looks through all
 * of them. The random runs hold NumberedSparks against it.
 */
public final class NaiveSparks {
  static final class Token {
    final char type; final String text; final int at;
    Token(char type, String text, int at) { this.type = type; this.text = text; this.at = at; }
  }

  static final class Fault extends RuntimeException {
    private static final long serialVersionUID = 1L;
    final int number, at;
    Fault(int number, int at) { this.number = number; this.at = at; }
  }

  static final class Kind {
    int life, vary, speed, falls, size = 1, edge, childs, childKind = -1;
  }

  static final class Source {
    int kind, x, y, z, from, every, burst = 1, until = 9999, jitter;
  }

  static final class Scene {
    int w, h, d, lines; Integer seed;
    final List<Kind> kinds = new ArrayList<>();
    final List<Source> sources = new ArrayList<>();
  }

  static final class Spark {
    int code, kind, source, number, generation, born, ends;
    Spark parent;
    final int[] speed = new int[3], begins = new int[3];
    final List<int[]> free = new ArrayList<>(), places = new ArrayList<>();
    boolean there(int t) { return born <= t && t < ends; }
    int[] at(int t) { return places.get(t - born); }
    List<Integer> cell(int t) { int[] p = at(t); return List.of(p[0] / 8, p[1] / 8, p[2] / 8); }
  }

  private final StringBuilder tape = new StringBuilder();
  private String out = "";
  private Scene scene;
  private int faultNumber = 0, faultAt = -1;
  private final List<Runnable> undos = new ArrayList<>();
  private Map<Integer, Spark> sparks;

  // ---- text ----

  public int feed(int a, int b, int c, int d, int e) {
    if (tape.length() + 20 > 500) return -1;
    for (int n : new int[] {a, b, c, d, e})
      for (int shift : new int[] {24, 16, 8, 0}) tape.append((char) (n >>> shift & 0xff));
    return tape.length();
  }

  public int end(int n) {
    if (n < 0 || n > tape.length()) return -1;
    tape.setLength(n);
    return n;
  }

  public int scene() {
    String text = tape.toString();
    tape.setLength(0);
    try {
      Scene told = new Parse(text).text();
      scene = told;
      faultNumber = 0; faultAt = -1;
      undos.clear();
      sparks = null;
      return told.lines;
    } catch (Fault f) {
      faultNumber = f.number; faultAt = f.at;
      return -4;
    }
  }

  static final class Parse {
    final List<Token> tokens = new ArrayList<>();
    int i = 0;
    Scene scene = new Scene();

    Parse(String text) {
      java.util.regex.Matcher m = java.util.regex.Pattern.compile("[a-z]+|[0-9]+|[^ \n]", java.util.regex.Pattern.DOTALL).matcher(text);
      while (m.find()) {
        char first = m.group().charAt(0);
        tokens.add(new Token(first >= 'a' && first <= 'z' ? 'w' : first >= '0' && first <= '9' ? 'n' : 's', m.group(), m.start()));
      }
      tokens.add(new Token('e', "", text.length()));
    }

    Token now() { return tokens.get(i); }
    boolean sees(String text) { return now().text.equals(text) && now().type != 'e'; }
    boolean takes(String text) { if (!sees(text)) return false; i++; return true; }
    void needs(String text) { if (!takes(text)) throw new Fault(1, now().at); }

    int number(int least, int most) {
      if (now().type != 'n') throw new Fault(1, now().at);
      java.math.BigInteger n = new java.math.BigInteger(now().text);
      if (n.compareTo(java.math.BigInteger.valueOf(least)) < 0 || n.compareTo(java.math.BigInteger.valueOf(most)) > 0)
        throw new Fault(2, now().at);
      i++;
      return n.intValueExact();
    }

    Scene text() {
      needs("world");
      scene.w = number(1, 40); scene.h = number(1, 40); scene.d = number(1, 40);
      needs(";");
      scene.lines = 1;
      while (now().type != 'e') {
        int at = now().at;
        if (takes("seed")) {
          if (scene.seed != null) throw new Fault(3, at);
          scene.seed = number(0, 999999);
        } else if (takes("kind")) {
          if (scene.kinds.size() == 5) throw new Fault(3, at);
          scene.kinds.add(kind());
        } else if (takes("source")) {
          if (scene.sources.size() == 4) throw new Fault(3, at);
          scene.sources.add(source());
        } else throw new Fault(1, at);
        needs(";");
        scene.lines++;
      }
      if (scene.seed == null) scene.seed = 0;
      return scene;
    }

    Kind kind() {
      Kind k = new Kind();
      needs("life"); k.life = number(1, 40);
      if (takes("vary")) k.vary = number(0, 20);
      if (takes("speed")) k.speed = number(0, 20);
      if (takes("falls")) { int way = takes("-") ? -1 : 1; k.falls = way * number(0, 9); }
      if (takes("size")) k.size = number(1, 9);
      for (String edge : List.of("wrap", "bounce", "ends"))
        if (sees(edge)) { k.edge = List.of("wrap", "bounce", "ends").indexOf(edge); i++; break; }
      if (takes("childs")) {
        k.childs = number(1, 2); needs("of"); k.childKind = number(0, scene.kinds.size() - 1);
      }
      return k;
    }

    Source source() {
      Source s = new Source();
      s.kind = number(0, scene.kinds.size() - 1);
      needs("at"); s.x = number(0, scene.w - 1); s.y = number(0, scene.h - 1); s.z = number(0, scene.d - 1);
      needs("from"); s.from = number(0, 9999);
      needs("every"); s.every = number(1, 99);
      if (takes("burst")) s.burst = number(1, 5);
      if (takes("until")) s.until = number(0, 9999);
      if (takes("jitter")) s.jitter = number(0, 20);
      return s;
    }
  }

  public int fault(int what) { return what == 0 ? faultNumber : what == 1 ? faultAt : -1; }

  public int count(int what) {
    if (what == 6) return tape.length();
    if (what == 7) return out.length();
    if (what < 0 || what > 7) return -1;
    if (scene == null) return 0;
    return new int[] {scene.w, scene.h, scene.d, scene.kinds.size(), scene.sources.size(), scene.seed}[what];
  }

  public int kind(int k, int what) {
    if (scene == null || k < 0 || k >= scene.kinds.size() || what < 0 || what > 7) return -99;
    Kind q = scene.kinds.get(k);
    return new int[] {q.life, q.vary, q.speed, q.falls, q.size, q.edge, q.childs, q.childKind}[what];
  }

  private static int roots(Source q) {
    int k = 0;
    while (q.from + k / q.burst * q.every <= q.until) k++;
    return k;
  }

  private boolean noSource(int s) { return scene == null || s < 0 || s >= scene.sources.size(); }

  public int source(int s, int what) {
    if (noSource(s) || what < 0 || what > 9) return -2;
    Source q = scene.sources.get(s);
    return new int[] {q.kind, q.x, q.y, q.z, q.from, q.every, q.burst, q.until, q.jitter, roots(q)}[what];
  }

  // ---- changes ----

  private void did(Runnable undo) {
    undos.add(undo);
    if (undos.size() > 10) undos.remove(0);
    sparks = null;
  }

  public int seed(int n) {
    if (scene == null || n < 0 || n > 999999) return -2;
    int was = scene.seed;
    if (was != n) { scene.seed = n; did(() -> scene.seed = was); }
    return was;
  }

  private static void put(Kind q, int what, int v) {
    switch (what) { case 0: q.life = v; break; case 1: q.vary = v; break; case 2: q.speed = v; break; case 3: q.falls = v; break; default: q.size = v; }
  }

  public int sets(int k, int what, int v) {
    if (scene == null || k < 0 || k >= scene.kinds.size() || what < 0 || what > 4) return -99;
    int[][] bounds = {{1, 40}, {0, 20}, {0, 20}, {-9, 9}, {1, 9}};
    if (v < bounds[what][0] || v > bounds[what][1]) return -99;
    int was = kind(k, what);
    Kind q = scene.kinds.get(k);
    if (was != v) { put(q, what, v); did(() -> put(q, what, was)); }
    return was;
  }

  public int undo() {
    if (scene == null) return -2;
    if (undos.isEmpty()) return -1;
    undos.remove(undos.size() - 1).run();
    sparks = null;
    return undos.size();
  }

  // ---- all sparks at once ----

  public long mixed(int code, int salt) {
    if (scene == null) return 0;
    long z = (long) scene.seed + (long) code * 0x9E3779B97F4A7C15L + (long) salt * -3335678366873096957L;
    z = (z ^ z >>> 30) * 0xBF58476D1CE4E5B9L;
    z = (z ^ z >>> 27) * 0x94D049BB133111EBL;
    return z ^ z >>> 31;
  }

  private int draw(int code, int n, int salt) { return (int) ((mixed(code, salt) >>> 33) % n); }

  private Map<Integer, Spark> all() {
    if (sparks != null) return sparks;
    List<Spark> made = new ArrayList<>();
    for (int s = 0; s < scene.sources.size(); s++) {
      Source q = scene.sources.get(s);
      for (int k = 0; q.from + k / q.burst * q.every <= q.until; k++) {
        Spark own = new Spark();
        own.code = 256 * (4 * k + s); own.kind = q.kind; own.source = s; own.number = k;
        own.born = q.from + k / q.burst * q.every + draw(own.code, q.jitter + 1, 0);
        own.begins[0] = 8 * q.x + 4; own.begins[1] = 8 * q.y + 4; own.begins[2] = 8 * q.z + 4;
        live(own, made);
      }
    }
    made.sort(Comparator.comparingInt((Spark p) -> p.code));
    sparks = new LinkedHashMap<>();
    for (Spark p : made) sparks.put(p.code, p);
    return sparks;
  }

  private void live(Spark p, List<Spark> made) {
    made.add(p);
    Kind q = scene.kinds.get(p.kind);
    int life = q.life + draw(p.code, q.vary + 1, 1);
    int[] world = {8 * scene.w, 8 * scene.h, 8 * scene.d};
    for (int axis = 0; axis < 3; axis++) p.speed[axis] = draw(p.code, 2 * q.speed + 1, 2 + axis) - q.speed;
    p.ends = p.born + life;
    for (int a = 0; a < life; a++) {
      int[] free = new int[3], place = new int[3];
      boolean beyond = false;
      for (int axis = 0; axis < 3; axis++) {
        int v = p.begins[axis] + a * p.speed[axis];
        if (axis == 1) v += q.falls * a * (a - 1) / 2;
        free[axis] = v;
        if (v < 0 || v >= world[axis]) beyond = true;
        if (q.edge == 0) while (v < 0) v += world[axis];
        if (q.edge == 0) while (v >= world[axis]) v -= world[axis];
        while (q.edge == 1 && (v < 0 || v >= world[axis])) v = v < 0 ? -1 - v : 2 * world[axis] - 1 - v;
        place[axis] = v;
      }
      if (q.edge == 2 && beyond) { p.ends = p.born + a; break; }
      p.free.add(free);
      p.places.add(place);
    }
    if (p.generation == 2) return;
    for (int c = 0; c < q.childs; c++) {
      Spark kid = new Spark();
      kid.parent = p; kid.generation = p.generation + 1;
      kid.code = p.code + (kid.generation == 1 ? 16 * (1 + c) : 1 + c);
      kid.kind = q.childKind; kid.source = p.source; kid.number = p.number; kid.born = p.ends;
      System.arraycopy(p.places.get(p.places.size() - 1), 0, kid.begins, 0, 3);
      live(kid, made);
    }
  }

  private Spark get(int code) { return scene == null ? null : all().get(code); }
  private Stream<Spark> stream() { return all().values().stream(); }
  private Stream<Spark> in(int tick) { return stream().filter(p -> p.there(tick)); }
  private Stream<Spark> own(int s) { return stream().filter(p -> p.generation == 0 && p.source == s); }
  private boolean noTick(int t) { return scene == null || t < 0 || t > 30000; }
  private boolean noCell(int x, int y) { return scene == null || x < 0 || y < 0 || x >= scene.w || y >= scene.h; }
  private boolean noZ(int z) { return scene == null || z < 0 || z >= scene.d; }
  private boolean noWindow(int a, int b, int least, int most) {
    return scene == null || a < 0 || b > 30001 || a > b || (long) b - a < least || (long) b - a > most;
  }

  // ---- one spark ----

  public int is(int code) { return scene == null ? -2 : get(code) != null ? 1 : 0; }

  public int child(int code, int c) {
    Spark p = get(code);
    if (p == null) return -2;
    List<Spark> kids = stream().filter(q -> q.parent == p).collect(Collectors.toList());
    return c < 0 || c >= kids.size() ? -1 : kids.get(c).code;
  }

  public int parent(int code) {
    Spark p = get(code);
    return p == null ? -2 : p.parent == null ? -1 : p.parent.code;
  }

  public int spark(int code, int what) {
    Spark p = get(code);
    if (p == null || what < 0 || what > 9) return -99;
    return new int[] {p.kind, p.source, p.number, p.generation, draw(code, 8, 5), p.born, p.ends, p.speed[0], p.speed[1], p.speed[2]}[what];
  }

  public int place(int code, int tick, int what) {
    Spark p = get(code);
    if (p == null || noTick(tick) || what < 0 || what > 2) return -2;
    return p.there(tick) ? p.at(tick)[what] : -1;
  }

  public int size(int code, int tick) {
    Spark p = get(code);
    if (p == null || noTick(tick)) return -2;
    if (!p.there(tick)) return -1;
    return Math.max(1, scene.kinds.get(p.kind).size - 4 * (tick - p.born) / (p.ends - p.born));
  }

  private int crossed(Spark p, int age) {
    if (scene.kinds.get(p.kind).edge == 2) return 0;
    int[] world = {8 * scene.w, 8 * scene.h, 8 * scene.d};
    int sum = 0;
    for (int axis = 0; axis < 3; axis++)
      sum += Math.abs((int) (Math.floor(p.free.get(age)[axis] / (double) world[axis]) - Math.floor(p.free.get(age - 1)[axis] / (double) world[axis])));
    return sum;
  }

  public int edges(int code) {
    Spark p = get(code);
    return p == null ? -2 : IntStream.range(1, p.places.size()).map(a -> crossed(p, a)).sum();
  }

  public int over(int code) {
    Spark p = get(code);
    if (p == null) return -2;
    return IntStream.range(1, p.places.size()).filter(a -> crossed(p, a) > 0).map(a -> a + p.born).findFirst().orElse(-1);
  }

  public int cellsOf(int code) {
    Spark p = get(code);
    return p == null ? -2 : (int) IntStream.range(p.born, p.ends).mapToObj(p::cell).distinct().count();
  }

  public int meets(int code, int other) {
    Spark p = get(code), q = get(other);
    if (p == null || q == null || p == q) return -2;
    return IntStream.rangeClosed(0, 30000).filter(t -> p.there(t) && q.there(t) && p.cell(t).equals(q.cell(t))).findFirst().orElse(-1);
  }

  public int reach(int code, int what, int end) {
    Spark p = get(code);
    if (p == null || what < 0 || what > 2 || end < 0 || end > 1) return -2;
    IntStream all = p.places.stream().mapToInt(v -> v[what]);
    return end == 0 ? all.min().getAsInt() : all.max().getAsInt();
  }

  private static List<Spark> up(Spark p) {
    List<Spark> line = new ArrayList<>();
    for (Spark q = p; q != null; q = q.parent) line.add(q);
    return line;
  }

  public int kin(int code, int other) {
    Spark p = get(code), q = get(other);
    if (p == null || q == null) return -2;
    return up(p).stream().filter(up(q)::contains).mapToInt(v -> v.code).findFirst().orElse(-1);
  }

  public int line(int code, int what) {
    Spark p = get(code);
    if (p == null || what < 0 || what > 1) return -2;
    List<Spark> line = stream().filter(q -> up(q).contains(p)).collect(Collectors.toList());
    return what == 0 ? line.size() : line.stream().mapToInt(q -> q.ends).max().getAsInt();
  }

  public int tell(int code) {
    Spark p = get(code);
    if (p == null) return -2;
    String path = p.generation == 0 ? "" : p.generation == 1 ? "." + ((code & 255) / 16 - 1) : "." + ((code & 255) / 16 - 1) + "." + (code % 16 - 1);
    out = "abcde".charAt(p.kind) + "" + p.source + p.number + path + " " + p.born + "-" + p.ends + " " + p.begins[0] + " " + p.begins[1] + " " + p.begins[2];
    return out.length();
  }

  public int octet(int i) { return i < 0 || i >= out.length() ? -1 : out.charAt(i); }

  // ---- births ----

  public int births(int s, int a, int b) {
    if (noSource(s) || noWindow(a, b, 0, 30001)) return -2;
    return (int) own(s).filter(p -> p.born >= a && p.born < b).count();
  }

  private List<Spark> byBorn(int s) {
    return own(s).sorted(Comparator.comparingInt((Spark p) -> p.born).thenComparingInt(p -> p.code)).collect(Collectors.toList());
  }

  public int bornAs(int s, int n) {
    if (noSource(s) || n < 0) return -2;
    List<Spark> row = byBorn(s);
    return n < row.size() ? row.get(n).code : -1;
  }

  public int latest(int s, int tick) {
    if (noSource(s) || noTick(tick)) return -2;
    return byBorn(s).stream().filter(p -> p.born <= tick).mapToInt(p -> p.code).reduce(-1, (p, q) -> q);
  }

  public int next(int s, int tick) {
    if (noSource(s) || noTick(tick)) return -2;
    return own(s).mapToInt(p -> p.born).filter(t -> t >= tick).min().orElse(-1);
  }

  public int lull(int s, int a, int b, int what) {
    if (noSource(s) || noWindow(a, b, 1, 2000) || what < 0 || what > 1) return -2;
    Set<Integer> born = own(s).map(p -> p.born).collect(Collectors.toSet());
    int most = 0, at = -1;
    for (int t = a; t < b; t++) {
      int n = 0;
      while (t + n < b && !born.contains(t + n)) n++;
      if (n > most) { most = n; at = t; }
      t += n;
    }
    return what == 0 ? most : at;
  }

  // ---- windows ----

  public int endings(int a, int b) {
    if (noWindow(a, b, 0, 300)) return -2;
    return (int) stream().filter(p -> p.ends >= a && p.ends < b).count();
  }

  public int peak(int a, int b, int what) {
    if (noWindow(a, b, 1, 60) || what < 0 || what > 1) return -2;
    int at = a, most = -1;
    for (int t = a; t < b; t++) {
      int n = (int) in(t).count();
      if (n > most) { most = n; at = t; }
    }
    return what == 0 ? at : most;
  }

  public int firstIn(int tick, int x, int y) {
    if (noTick(tick) || noCell(x, y)) return -2;
    for (int t = tick; t <= tick + 99 && t <= 30000; t++) if (inColumn(t, x, y) > 0) return t;
    return -1;
  }

  public int flux(int a, int b, int n, int way) {
    if (noWindow(a, b, 0, 60) || n < 1 || n > scene.w - 1 || way < 0 || way > 1) return -2;
    int often = 0;
    for (int t = a; t < b; t++) {
      int now = t;
      often += in(t).filter(p -> p.there(now - 1)).filter(p -> {
        boolean was = p.cell(now - 1).get(0) >= n, is = p.cell(now).get(0) >= n;
        return way == 1 ? !was && is : was && !is;
      }).count();
    }
    return often;
  }

  // ---- frames ----

  public int many(int tick, int what) {
    if (noTick(tick) || what != -1 && (what < 0 || what >= scene.kinds.size())) return -2;
    return (int) in(tick).filter(p -> what == -1 || p.kind == what).count();
  }

  private List<Spark> frame(int tick) {
    return in(tick).sorted(Comparator.comparingInt((Spark p) -> -p.at(tick)[2]).thenComparingInt(p -> p.code)).collect(Collectors.toList());
  }

  public int drawn(int tick, int k) {
    if (noTick(tick) || k < 0) return -2;
    List<Spark> f = frame(tick);
    return k < f.size() ? f.get(k).code : -1;
  }

  public long digest(int tick) {
    if (noTick(tick)) return 0;
    long n = 17;
    for (Spark p : frame(tick)) {
      n = 31 * n + p.code;
      for (int v : p.at(tick)) n = 31 * n + v;
    }
    return n;
  }

  private List<Spark> column(int tick, int x, int y) {
    return in(tick).filter(p -> p.cell(tick).get(0) == x && p.cell(tick).get(1) == y)
      .sorted(Comparator.comparingInt((Spark p) -> p.at(tick)[2]).thenComparingInt(p -> -p.code)).collect(Collectors.toList());
  }

  public int inColumn(int tick, int x, int y) { return noTick(tick) || noCell(x, y) ? -2 : column(tick, x, y).size(); }

  public int top(int tick, int x, int y) { return below(tick, x, y, 0); }

  public int below(int tick, int x, int y, int k) {
    if (noTick(tick) || noCell(x, y) || k < 0) return -2;
    List<Spark> c = column(tick, x, y);
    return k < c.size() ? c.get(k).code : -1;
  }

  public int fullest(int tick, int what) {
    if (noTick(tick) || what < 0 || what > 2) return -2;
    if (in(tick).count() == 0) return -1;
    int[] best = null;
    int[][] n = new int[scene.h][scene.w];
    in(tick).forEach(p -> n[p.cell(tick).get(1)][p.cell(tick).get(0)]++);
    for (int y = 0; y < scene.h; y++)
      for (int x = 0; x < scene.w; x++) if (best == null || n[y][x] > best[2]) best = new int[] {x, y, n[y][x]};
    return best[what];
  }

  public int columns(int tick) {
    return noTick(tick) ? -2 : (int) in(tick).map(p -> p.cell(tick).subList(0, 2)).distinct().count();
  }

  private static int far(Spark p, int tick, int x, int y, int z) {
    int[] v = p.at(tick);
    int a = v[0] - 8 * x - 4, b = v[1] - 8 * y - 4, c = v[2] - 8 * z - 4;
    return a * a + b * b + c * c;
  }

  public int nearest(int tick, int x, int y, int z) {
    if (noTick(tick) || noCell(x, y) || noZ(z)) return -2;
    return in(tick).min(Comparator.comparingInt((Spark p) -> far(p, tick, x, y, z)).thenComparingInt(p -> p.code)).map(p -> p.code).orElse(-1);
  }

  public int within(int tick, int x, int y, int z, int r) {
    if (noTick(tick) || noCell(x, y) || noZ(z) || r < 0 || r > 600) return -2;
    return (int) in(tick).filter(p -> far(p, tick, x, y, z) <= r * r).count();
  }

  public long twos(int tick) {
    if (noTick(tick)) return -2;
    Map<List<Integer>, Long> n = new HashMap<>();
    in(tick).forEach(p -> n.merge(p.cell(tick), 1L, Long::sum));
    return n.values().stream().mapToLong(v -> v * (v - 1) / 2).sum();
  }

  public int box(int tick, int what) {
    if (noTick(tick) || what < 0 || what > 5) return -2;
    IntStream v = in(tick).mapToInt(p -> p.cell(tick).get(what % 3));
    return what < 3 ? v.min().orElse(-1) : v.max().orElse(-1);
  }

  public int middle(int tick, int what) {
    if (noTick(tick) || what < 0 || what > 2) return -2;
    int[] v = in(tick).mapToInt(p -> p.at(tick)[what]).toArray();
    return v.length == 0 ? -1 : Arrays.stream(v).sum() / v.length;
  }

  public int both(int tick, int other) {
    if (noTick(tick) || noTick(other)) return -2;
    return (int) stream().filter(p -> p.there(tick) && p.there(other)).count();
  }

  public int ofAge(int tick, int generation, int what) {
    if (noTick(tick) || generation < 0 || generation > 2 || what < 0 || what > 2) return -2;
    List<Spark> g = in(tick).filter(p -> p.generation == generation).collect(Collectors.toList());
    if (what == 0) return g.size();
    if (what == 1) return g.stream().mapToInt(p -> tick - p.born).sum();
    return g.stream().min(Comparator.comparingInt((Spark p) -> p.born).thenComparingInt(p -> p.code)).map(p -> p.code).orElse(-1);
  }

  public int colours(int tick, int colour) {
    if (noTick(tick) || colour < 0 || colour > 7) return -2;
    return (int) in(tick).filter(p -> draw(p.code, 8, 5) == colour).count();
  }

  public int twins(int tick) {
    if (noTick(tick)) return -2;
    Map<Spark, Integer> n = new HashMap<>();
    in(tick).filter(p -> p.parent != null).forEach(p -> n.merge(p.parent, 1, Integer::sum));
    return n.values().stream().filter(v -> v > 1).mapToInt(v -> v).sum();
  }

  public int picture(int tick) {
    if (noTick(tick)) return -2;
    StringBuilder b = new StringBuilder();
    for (int y = 0; y < scene.h; y++, b.append('\n'))
      for (int x = 0; x < scene.w; x++) {
        int code = top(tick, x, y);
        b.append(code == -1 ? "." : "" + draw(code, 8, 5));
      }
    out = b.toString();
    return out.length();
  }

  public int layer(int tick, int z) {
    if (noTick(tick) || noZ(z)) return -2;
    int[][] n = new int[scene.h][scene.w];
    in(tick).filter(p -> p.cell(tick).get(2) == z).forEach(p -> n[p.cell(tick).get(1)][p.cell(tick).get(0)]++);
    StringBuilder b = new StringBuilder();
    for (int[] row : n) {
      for (int v : row) b.append(v == 0 ? "." : "" + Math.min(9, v));
      b.append('\n');
    }
    out = b.toString();
    return out.length();
  }

  /** Codes of sparks, for tests that want some. */
  List<Integer> codes() { return scene == null ? List.of() : new ArrayList<>(all().keySet()); }

  /** Ticks in which something is born or ends. */
  Set<Integer> ticks() {
    Set<Integer> ticks = new HashSet<>();
    if (scene != null) for (Spark p : all().values()) { ticks.add(p.born); ticks.add(p.ends); }
    return ticks;
  }
}
