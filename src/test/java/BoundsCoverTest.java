import java.io.IOException;
import java.lang.reflect.Method;
import java.nio.file.DirectoryStream;
import java.nio.file.Files;
import java.nio.file.Path;
import java.util.Set;
import java.util.TreeSet;

/** Each sentence of the document's terms and promises is held by a test of the bounds that says it, and none says another. */
public final class BoundsCoverTest extends Check {
  private static final Path DOCUMENT = Path.of("../shared/DOC.md");
  private static final Class<?>[] TESTS = {BoundsOfTellingTest.class, BoundsOfTextsTest.class, BoundsOfLawTest.class,
    BoundsOfFaultsTest.class, BoundsOfWeeksTest.class, BoundsOfLayingTest.class, BoundsOfPlanTest.class, BoundsOfLooksTest.class,
    BoundsOfClosingTest.class, BoundsOfCountsTest.class, BoundsOfMemoryTest.class};

  public static void main(String[] args) throws IOException {
    String document = plain(Files.readString(DOCUMENT));
    boolean[] said = new boolean[document.length()];
    boolean[] promises = new boolean[33];
    for (Class<?> tests : TESTS) {
      for (Method test : Bounds.testsOf(tests)) {
        about(test.getName());
        Says says = test.getAnnotation(Says.class);
        due("says what it holds to", says != null, true);
        promises[Math.min(32, Bounds.promiseOf(test))] = true;
        for (String words : says == null ? new String[0] : says.value()) {
          due("is in the document: " + words, mark(document, words, said), true);
        }
      }
    }
    about("the document");
    for (int i = 1; i <= 32; i++) {
      due("a test of promise " + i, promises[i], true);
    }
    unsaid(document, said);
    about("the tests of the bounds");
    listed();
    finish();
  }

  /** The terms and the promises in one line, without headings, fences and the heads of the calls. */
  private static String plain(String text) {
    int from = text.indexOf("## Terms");
    int to = text.indexOf("## Not promised");
    StringBuilder s = new StringBuilder();
    for (String line : text.substring(from, to).split("\n")) {
      boolean head = line.startsWith("#") || line.startsWith("```");
      s.append(head ? "" : line.replaceFirst("^`[^`]*`: ", "").replaceFirst("^==== \\d\\. ", "")).append(' ');
    }
    return s.toString().replaceAll("\\s+", " ").trim();
  }

  private static boolean mark(String document, String words, boolean[] said) {
    boolean found = false;
    for (int at = document.indexOf(words); at >= 0; at = document.indexOf(words, at + 1)) {
      found = true;
      for (int i = at; i < at + words.length(); i++) {
        said[i] = true;
      }
    }
    return found;
  }

  private static void unsaid(String document, boolean[] said) {
    StringBuilder rest = new StringBuilder();
    for (int i = 0; i <= document.length(); i++) {
      if (i < document.length() && !said[i]) {
        rest.append(document.charAt(i));
        continue;
      }
      if (rest.toString().matches(".*[A-Za-z0-9].*")) {
        due("no test says: " + rest, true, false);
      }
      rest.setLength(0);
    }
  }

  private static void listed() throws IOException {
    Set<String> names = new TreeSet<>();
    for (Class<?> tests : TESTS) {
      names.add(tests.getName() + ".java");
    }
    Set<String> files = new TreeSet<>();
    try (DirectoryStream<Path> all = Files.newDirectoryStream(Path.of("src/test/java"), "BoundsOf*Test.java")) {
      for (Path file : all) {
        files.add(file.getFileName().toString());
      }
    }
    due("are all listed: " + files, files.equals(names), true);
  }
}
