import java.lang.reflect.Method;
import java.lang.reflect.Modifier;
import java.nio.file.Files;
import java.nio.file.Path;
import java.util.Arrays;
import java.util.List;
import java.util.Set;
import java.util.TreeSet;
import java.util.regex.Matcher;
import java.util.regex.Pattern;
import java.util.stream.Collectors;

/** README.md: its example gives the answers that it says, its table has every call. Runs in the project's folder. */
public final class ReadmeTest extends Checks {
  public static void main(String[] args) throws Exception {
    where = "README.md";
    String page = Files.readString(Path.of("README.md"));
    Matcher block = Pattern.compile("```java\n(.*?)```", Pattern.DOTALL).matcher(page);
    due("is there an example", block.find() ? 1 : 0, 1);
    example(block.group(1));
    table(page);
    tests(page);
    finish();
  }

  /** Up to end() it stands in this file to the letter; behind that each line is a call and its answer. */
  private static void example(String code) throws Exception {
    int told = code.indexOf("sparks.scene()");
    String own = Files.readString(Path.of("src/test/java/ReadmeTest.java"));
    due("is the text fed as here", bare(own).contains(bare(code.substring(0, told))) ? 1 : 0, 1);
    NumberedSparks sparks = fed();
    for (String line : code.substring(told).split("\n")) {
      Matcher call = Pattern.compile("sparks\\.(\\w+)\\(([^)]*)\\); *// (-?\\d+): .*").matcher(line);
      due("a call and its answer: " + line, call.matches() ? 1 : 0, 1);
      due(line, asked(sparks, call.group(1), call.group(2)), Long.parseLong(call.group(3)));
    }
  }

  private static NumberedSparks fed() {
    NumberedSparks sparks = new NumberedSparks();
    String text = "world 4 3 2;kind life 3;source 0 at 1 1 0 from 5 every 2 burst 2 until 8;";
    for (int i = 0; i < text.length(); i += 20) {
        int[] five = new int[5];
        for (int j = 0; j < 20; j++) {
            int sign = i + j < text.length() ? text.charAt(i + j) : ' ';
            five[j / 4] = five[j / 4] << 8 | sign;
        }
        sparks.feed(five[0], five[1], five[2], five[3], five[4]);
    }
    sparks.end(text.length());
    return sparks;
  }

  private static String bare(String code) { return code.replaceAll("\\s+", " "); }

  private static long asked(NumberedSparks sparks, String name, String numbers) throws Exception {
    Object[] each = Arrays.stream(numbers.split(", *")).filter(n -> !n.isEmpty()).map(Integer::valueOf).toArray();
    Class<?>[] types = new Class<?>[each.length];
    Arrays.fill(types, int.class);
    return ((Number) NumberedSparks.class.getMethod(name, types).invoke(sparks, each)).longValue();
  }

  private static void table(String page) {
    Set<String> face = new TreeSet<>();
    for (Method method : NumberedSparks.class.getDeclaredMethods()) if (Modifier.isPublic(method.getModifiers())) face.add(method.getName());
    String rows = page.lines().filter(line -> line.startsWith("| ")).collect(Collectors.joining("\n"));
    Set<String> named = new TreeSet<>();
    Matcher name = Pattern.compile("`(\\w+)`").matcher(rows);
    while (name.find()) due("named once: " + name.group(1), named.add(name.group(1)) ? 1 : 0, 1);
    due("the table has " + named + ", the face " + face + ": alike", named.equals(face) ? 1 : 0, 1);
  }

  private static void tests(String page) throws Exception {
    List<Path> files;
    try (java.util.stream.Stream<Path> all = Files.list(Path.of("src/test/java"))) { files = all.collect(Collectors.toList()); }
    for (Path file : files) due("does it tell of " + file.getFileName(), page.contains(file.getFileName().toString()) ? 1 : 0, 1);
  }
}
