import java.io.IOException;
import java.nio.file.Files;
import java.nio.file.Path;
import java.util.ArrayList;
import java.util.List;
import java.util.Map;
import java.util.TreeMap;
import java.util.regex.Matcher;
import java.util.regex.Pattern;

/**
 * The document's sections, and which of their words a test has taken up: a test
 * says the words that it is about, and none that names a boundary case is left.
 */
final class Sentences {
  /** Words by which the document names a boundary case. */
  private static final Pattern BOUNDARY = Pattern.compile(
    "-2|-4|-99|NONE|\\btoo\\b|at least|at most|no more than|more than|not so many|not so|\\.\\.|\\bwithout\\b|of like ones|\\bcut\\b|\\bempty\\b"
    + "|ahead of|\\bbelow\\b|\\babove\\b|\\bfirst\\b|\\blast\\b|\\bleast\\b|\\bgreatest\\b|\\bmost\\b|\\blatest\\b|\\bonce\\b|\\bbeyond\\b|go round|no such|\\bstays?\\b|\\balone\\b|\\bmodulo\\b");

  private final Map<String, String> sections = new TreeMap<>();
  private final Map<String, String> left = new TreeMap<>();
  private String name = "";

  Sentences() throws IOException {
    String doc = Files.readString(Path.of("../shared/DOC.md")).replaceAll("```(text)?", " ").replaceAll("\\s+", " ");
    String terms = between(doc, "## Terms", "## Promise 1:");
    put("I", between(terms, "I. SCENE", "II. CODE"));
    put("II", between(terms, "II. CODE", "III. FRAME"));
    put("III", terms.substring(terms.indexOf("III. FRAME")));
    for (int n = 1; n <= 55; n++) {
      String whole = between(doc, "## Promise " + n + ":", n < 55 ? "## Promise " + (n + 1) + ":" : "## Not promised");
      put("" + n, whole.substring(whole.indexOf("`:") + 2));
    }
  }

  private static String between(String text, String from, String to) {
    int start = text.indexOf(from);
    int end = text.indexOf(to, start);
    if (start < 0 || end < 0) throw new IllegalStateException("the document has no " + from + " ahead of " + to);
    return text.substring(start, end);
  }

  private void put(String section, String words) {
    sections.put(section, words);
    left.put(section, words);
  }

  void section(String section) {
    name = section;
    Checks.where = section;
  }

  /** The words that the next checks are about. */
  void says(String words) {
    Checks.where = name + ", '" + words + "'";
    Checks.due("do these words stand in the document", sections.get(name).contains(words) ? 1 : 0, 1);
    left.put(name, left.get(name).replace(words, " | "));
  }

  /** Of these sections no word that names a boundary case is left. */
  void nothingLeft(List<String> names) {
    for (String section : names) {
      Checks.where = section;
      List<String> found = new ArrayList<>();
      Matcher m = BOUNDARY.matcher(left.get(section));
      while (m.find()) found.add(m.group());
      Checks.due("words that no test took up, " + found + " in: " + left.get(section), found.size(), 0);
    }
  }
}
