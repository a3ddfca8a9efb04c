import java.lang.reflect.Method;
import java.util.ArrayList;
import java.util.Arrays;
import java.util.List;

/**
 * Calls whose numbers are each within or beyond what the document lets them be:
 * one number beyond is enough to be refused, ahead of anything else that the
 * call would answer; with all within it is not.
 */
final class Refusals {
  /** Codes 0, 1024, 2048, 3072 with children 16, 32; 256, 1280 without. Kinds 0, 1, sources 0, 1. */
  static final String TEXT = "world 4 3 2;kind life 3;kind life 4 childs 2 of 0;"
    + "source 1 at 1 1 0 from 5 every 2 burst 2 until 8;source 0 at 0 0 1 from 0 every 9 until 9;";

  private static final int MIN = Integer.MIN_VALUE;
  private static final int MAX = Integer.MAX_VALUE;

  /** All calls of the face but the text's own; what each number is: see within() and beyond(). */
  static final String[] CALLS = {
    "kind k 0..7", "source s 0..9", "seed 0..999999", "is any", "child c any", "parent c", "spark c 0..9", "place c t 0..2", "size c t", "edges c",
    "many t -1..1", "drawn t n", "digest t", "inColumn t x y", "top t x y", "fullest t 0..2", "nearest t x y z", "twos t", "firstIn t x y",
    "line c 0..1", "box t 0..5", "middle t 0..2", "picture t", "cellsOf c", "meets c d", "bornAs s n", "latest s t", "layer t z", "both t t",
    "within t x y z 0..600", "ofAge t 0..2 0..2", "kin c d", "reach c 0..2 0..1", "over c", "tell c", "colours t 0..7", "columns t",
    "below t x y n", "next s t", "twins t",
    // With a window that is right: which ones are, windows() asks.
    "births s from0 to1", "endings from0 to1", "peak from0 to1 0..1", "flux from0 to1 1..3 0..1", "lull s from0 to1 0..1",
    // With numbers that each kind can have.
    "sets k 0..4 one",
  };

  private Refusals() { }

  static String[] rolesOf(String name) {
    for (String shape : CALLS) if (shape.startsWith(name + " ")) return shape.substring(name.length() + 1).split(" ");
    throw new IllegalArgumentException("no call " + name);
  }

  static long refusal(String name) {
    return name.equals("kind") || name.equals("spark") || name.equals("sets") ? -99 : name.equals("digest") ? 0 : -2;
  }

  private static int[] within(String role) {
    switch (role) {
      case "c": return new int[] {0, 3072, 3104, 1280};
      case "d": return new int[] {2048, 16};
      case "t": return new int[] {0, 7, 30000};
      case "x": return new int[] {0, 3};
      case "y": return new int[] {0, 2};
      case "z": case "s": case "k": return new int[] {0, 1};
      case "n": return new int[] {0, MAX};
      case "any": return new int[] {MIN, -1, 0, 1, 2, MAX};
      case "from0": return new int[] {0};
      case "to1": case "one": return new int[] {1};
      default: return bounds(role);
    }
  }

  private static int[] bounds(String role) {
    return Arrays.stream(role.split("\\.\\.")).mapToInt(Integer::parseInt).toArray();
  }

  private static int[] beyond(String role) {
    switch (role) {
      // Behind the last root, of a source that is none, paths that are none, of a kind without children, a grandchild.
      case "c": case "d": return new int[] {-1, MIN, MAX, 4096, 512, 768, 2304, 1, 2, 15, 48, 64, 240, 272, 17, 18, 33, 19, -1024, -256, 1 << 30};
      case "t": return new int[] {-1, 30001, MIN, MAX};
      case "x": return new int[] {-1, 4, MIN, MAX};
      case "y": return new int[] {-1, 3, MIN, MAX};
      case "z": case "s": case "k": return new int[] {-1, 2, MIN, MAX};
      case "n": return new int[] {-1, MIN};
      case "from0": case "to1": case "one": case "any": return new int[0];
      default: int[] ends = bounds(role); return new int[] {ends[0] - 1, ends[1] + 1, MIN, MAX};
    }
  }

  static long call(NumberedSparks x, String name, int... numbers) {
    Class<?>[] types = new Class<?>[numbers.length];
    Object[] boxed = new Object[numbers.length];
    Arrays.fill(types, int.class);
    for (int i = 0; i < numbers.length; i++) boxed[i] = numbers[i];
    try {
      Method method = NumberedSparks.class.getMethod(name, types);
      return ((Number) method.invoke(x, boxed)).longValue();
    } catch (ReflectiveOperationException e) {
      throw new IllegalStateException(name + Arrays.toString(numbers), e);
    }
  }

  /** All rows with each number within, but the given place, which has that number. */
  private static List<int[]> rows(String[] roles, int place, int number) {
    List<int[]> rows = new ArrayList<>();
    rows.add(new int[roles.length]);
    for (int i = 0; i < roles.length; i++) {
      List<int[]> longer = new ArrayList<>();
      for (int[] row : rows)
        for (int v : i == place ? new int[] {number} : within(roles[i])) {
          int[] more = row.clone();
          more[i] = v;
          longer.add(more);
        }
      rows = longer;
    }
    return rows;
  }

  /** One call, for each of its numbers: beyond it is refused, within it is not; nothing else becomes otherwise. */
  static void test(String name) {
    String[] roles = rolesOf(name);
    for (int i = 0; i < roles.length; i++)
      for (int v : beyond(roles[i])) refused(name, rows(roles, i, v));
    for (int i = 0; i < roles.length; i++) {
      int[] allBeyond = new int[roles.length];
      for (int j = 0; j < roles.length; j++) allBeyond[j] = beyond(roles[j]).length > 0 ? beyond(roles[j])[i % beyond(roles[j]).length] : within(roles[j])[0];
      if (beyond(roles[i]).length > 0) refused(name, List.of(allBeyond));
    }
    for (int[] row : rows(roles, -1, 0)) {
      long got = call(Checks.told(TEXT), name, row);
      Checks.due(name + Arrays.toString(row) + " is refused", got == refusal(name) ? 1 : 0, 0);
    }
  }

  private static void refused(String name, List<int[]> rows) {
    NumberedSparks x = Checks.told(TEXT);
    x.seed(5);
    x.sets(0, 4, 2);
    x.tell(1024);
    x.feed(1, 2, 3, 4, 5);
    String before = stateOf(x);
    for (int[] row : rows) Checks.due(name + Arrays.toString(row), call(x, name, row), refusal(name));
    Checks.due("a refused " + name + " left all as it was", stateOf(x).equals(before) ? 1 : 0, 1);
    Checks.due("fault(0) behind a refused " + name, x.fault(0), 0);
    Checks.due("fault(1) behind a refused " + name, x.fault(1), -1);
    Checks.due("undo() behind a refused " + name, x.undo(), 1);
  }

  /** What no call but those that change it may change. */
  static String stateOf(NumberedSparks x) {
    StringBuilder b = new StringBuilder();
    for (int what = 0; what < 8; what++) b.append(x.count(what)).append(' ');
    for (int k = 0; k < x.count(3); k++)
      for (int what = 0; what < 8; what++) b.append(x.kind(k, what)).append(' ');
    for (int s = 0; s < x.count(4); s++)
      for (int what = 0; what < 10; what++) b.append(x.source(s, what)).append(' ');
    return b.append(x.digest(7)).append(Checks.out(x)).toString();
  }

  /** Without a scene it is refused, whatever its numbers. */
  static void testWithout(String name, NumberedSparks x) {
    for (int[] row : rows(rolesOf(name), -1, 0)) Checks.due(name + Arrays.toString(row) + " without a scene", call(x, name, row), refusal(name));
  }

  interface Window {
    long ask(NumberedSparks x, int a, int b);
  }

  /** From a to below b, 0 .. 30001, b at least and at most so much above a. */
  static void testWindows(String name, int least, int most, Window window) {
    int[][] right = {{0, most}, {30001 - most, 30001}, {0, least}, {30001 - least, 30001}, {0, Math.min(most, 1)}, {30000, 30001}};
    int[][] wrong = {{-1, 1}, {-1, 0}, {-1, -1}, {5, 4}, {1, 0}, {30001, 30000}, {30001, 30002}, {30002, 30002}, {30000, 30002}, {MIN, MAX}, {MAX, MIN},
      {0, MAX}, {MIN, 0}, {MAX, MAX}, {MIN, MIN}, {MIN, 1}, {MAX, 1}, {0, least - 1}, {10, 10 + least - 1}, {0, most + 1}, {30001 - most, 30002},
      {Math.max(-1, 30000 - most), 30001}};
    NumberedSparks x = Checks.told(TEXT);
    for (int[] w : right) Checks.due(name + " of " + Arrays.toString(w) + " is refused", window.ask(x, w[0], w[1]) == -2 ? 1 : 0, 0);
    for (int[] w : wrong) Checks.due(name + " of " + Arrays.toString(w), window.ask(x, w[0], w[1]), -2);
  }
}
