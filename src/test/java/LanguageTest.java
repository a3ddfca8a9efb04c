import java.lang.reflect.Constructor;
import java.lang.reflect.Field;
import java.lang.reflect.Method;
import java.lang.reflect.Modifier;
import java.nio.file.Files;
import java.nio.file.Path;
import java.util.ArrayList;
import java.util.Arrays;
import java.util.List;
import java.util.Set;
import java.util.TreeSet;
import java.util.regex.Matcher;
import java.util.regex.Pattern;

/** The face that the document shows, and the rules of LANGUAGE.md that a test can see. Runs in the project's folder. */
public final class LanguageTest {
  private static int passed = 0;
  private static int failed = 0;

  private static void holds(String rule, boolean it) {
    if (it) { passed++; return; }
    failed++;
    System.out.println("broken: " + rule);
  }

  public static void main(String[] args) throws Exception {
    String source = Files.readString(Path.of("src/main/java/NumberedSparks.java"));
    String code = withoutComments(source);
    face(Files.readString(Path.of("../shared/DOC.md")));
    words(code);
    members();
    lengths(code);
    depth(code);
    System.out.println(passed + " passed, " + failed + " failed");
    if (failed != 0) System.exit(1);
  }

  private static String withoutComments(String source) {
    return source.replaceAll("(?s)/\\*.*?\\*/", "").replaceAll("//[^\n]*", "");
  }

  private static void face(String doc) {
    Set<String> due = new TreeSet<>();
    Matcher m = Pattern.compile("public (int|long) (\\w+)\\(([^)]*)\\);").matcher(doc);
    while (m.find()) due.add(m.group(1) + " " + m.group(2) + " " + (m.group(3).isEmpty() ? 0 : m.group(3).split(",").length));
    Set<String> is = new TreeSet<>();
    for (Method method : NumberedSparks.class.getDeclaredMethods()) {
      if (Modifier.isPublic(method.getModifiers())) is.add(method.getReturnType() + " " + method.getName() + " " + method.getParameterCount());
      else holds("1: " + method.getName() + " is public or private", Modifier.isPrivate(method.getModifiers()) || method.isSynthetic());
    }
    holds("1: the face is " + due + ", not " + is, due.equals(is) && due.size() > 50);
    for (Field field : NumberedSparks.class.getDeclaredFields())
      holds("1: the field " + field.getName(), Modifier.isPrivate(field.getModifiers()) || field.getName().equals("NONE"));
    Constructor<?>[] made = NumberedSparks.class.getDeclaredConstructors();
    holds("1: one public constructor", made.length == 1 && Modifier.isPublic(made[0].getModifiers()) && made[0].getParameterCount() == 0);
    holds("1: public and final", Modifier.isFinal(NumberedSparks.class.getModifiers()) && Modifier.isPublic(NumberedSparks.class.getModifiers()));
    holds("1: NONE", NumberedSparks.NONE == -1);
  }

  private static void words(String code) {
    for (String word : List.of("throw", "throws", "try", "catch", "finally", "synchronized", "assert", "package", "native", "volatile", "instanceof", "var", "record"))
      holds("6: no " + word, !Pattern.compile("\\b" + word + "\\b").matcher(code).find());
    holds("2: no lambda, no method reference", !code.contains("->") && !code.contains("::"));
    holds("5: no static block", !Pattern.compile("static\\s*\\{").matcher(code).find());
    Matcher imports = Pattern.compile("import ([\\w.]+);").matcher(code);
    while (imports.find()) holds("4: " + imports.group(1), Set.of("java.util.Arrays", "java.util.ArrayList", "java.util.List").contains(imports.group(1)));
    Matcher library = Pattern.compile("\\b(Arrays|Math|System|Integer|Long)\\.(\\w+)").matcher(code);
    Set<String> fine = Set.of("Arrays.fill", "Arrays.copyOf", "Arrays.copyOfRange", "System.arraycopy", "Math.max", "Math.min", "Math.abs", "Math.floorMod", "Math.floorDiv", "Integer.compare", "Long.compare");
    while (library.find()) holds("4: " + library.group(), fine.contains(library.group()));
    // A row is asked for by a method of its own class, which looks at the index first.
    Matcher foreign = Pattern.compile("\\b\\w+\\.\\w+\\[").matcher(code);
    while (foreign.find()) holds("7: a row of another object, " + foreign.group(), foreign.group().startsWith("this."));
    holds("3: no text but a plain one", code.chars().allMatch(c -> c < 128));
    holds("10: no text joined by +", !Pattern.compile("\"\\s*\\+|\\+\\s*\"").matcher(code).find());
  }

  private static List<Class<?>> classes() {
    List<Class<?>> all = new ArrayList<>(List.of(NumberedSparks.class));
    all.addAll(Arrays.asList(NumberedSparks.class.getDeclaredClasses()));
    return all;
  }

  private static void members() {
    Set<String> shown = new TreeSet<>();
    for (Method method : NumberedSparks.class.getDeclaredMethods()) if (Modifier.isPublic(method.getModifiers())) shown.add(method.getName());
    holds("11: some twelve classes", classes().size() <= 12);
    for (Class<?> type : classes()) {
      String name = type.getSimpleName();
      if (type != NumberedSparks.class)
        holds("1: " + name + " is static, and not public", Modifier.isStatic(type.getModifiers()) && !Modifier.isPublic(type.getModifiers()) && !Modifier.isProtected(type.getModifiers()));
      holds("2: " + name + " has no class inside", type == NumberedSparks.class || type.getDeclaredClasses().length == 0);
      int fields = 0;
      for (Field field : type.getDeclaredFields()) {
        holds("7: the row " + name + "." + field.getName() + " is private", !field.getType().isArray() || Modifier.isPrivate(field.getModifiers()));
        if (!Modifier.isStatic(field.getModifiers())) fields++;
        else holds("5: " + field.getName() + " is final", Modifier.isFinal(field.getModifiers()));
      }
      holds("11: " + name + " has some twenty fields, not " + fields, fields <= 20);
      for (Method method : type.getDeclaredMethods()) {
        holds("11: at most seven parameters of " + method.getName(), method.getParameterCount() <= 7);
        if (type != NumberedSparks.class || Modifier.isPrivate(method.getModifiers()))
          holds("1: " + name + "." + method.getName() + " bears a public name", !shown.contains(method.getName()));
      }
    }
  }

  /** Each method's body, by the way in which the file is set. */
  private static List<String[]> methods(String code) {
    List<String[]> all = new ArrayList<>();
    Matcher m = Pattern.compile("(?m)^( {4}| {8})(?:(?:public|private|static|final) )*(?:[\\w\\[\\]]+ )?(\\w+)\\([^)]*\\) \\{\n(?s:(.*?))^\\1\\}").matcher(code);
    while (m.find()) all.add(new String[] {m.group(2), m.group(3)});
    return all;
  }

  private static void lengths(String code) {
    List<String[]> all = methods(code);
    holds("the test finds the methods", all.size() > 130);
    for (String[] method : all) holds("11: " + method[0] + " is short", method[1].split("\n").length <= 60);
    for (String line : code.split("\n")) holds("a line of at most 140 signs: " + line, line.length() <= 140);
  }

  /** By names alone, so a shared name counts for all that bear it. */
  private static void depth(String code) {
    List<String[]> all = methods(code);
    for (String[] method : all) {
      int deep = depthOf(method[0], all, new ArrayList<>());
      holds("8, 11: " + method[0] + " goes " + deep + " deep", deep <= 8);
    }
  }

  private static int depthOf(String name, List<String[]> all, List<String> open) {
    if (open.contains(name)) return 1000;
    open.add(name);
    int deepest = 0;
    for (String[] method : all)
      if (method[0].equals(name))
        for (String called : calledBy(method[1]))
          deepest = Math.max(deepest, depthOf(called, all, open));
    open.remove(name);
    return 1 + (all.stream().anyMatch(m -> m[0].equals(name)) ? deepest : -1);
  }

  private static Set<String> calledBy(String body) {
    Set<String> called = new TreeSet<>();
    Matcher m = Pattern.compile("(?<!Math\\.)(?<!Arrays\\.)(?<!System\\.)\\b(\\w+)\\(").matcher(body);
    while (m.find()) if (!Set.of("if", "for", "while", "switch", "return").contains(m.group(1))) called.add(m.group(1));
    return called;
  }
}
