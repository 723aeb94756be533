import java.io.File;
import java.io.IOException;
import java.lang.reflect.Method;
import java.lang.reflect.Modifier;
import java.net.URL;
import java.net.URLClassLoader;
import java.nio.file.DirectoryStream;
import java.nio.file.Files;
import java.nio.file.Path;
import java.util.ArrayList;
import java.util.List;
import java.util.Set;
import java.util.TreeSet;
import java.util.regex.Matcher;
import java.util.regex.Pattern;
import javax.tools.ToolProvider;

/**
 * What README.md says is so: its Java is compiled as it stands there, and each call must answer what stands behind
 * it; the calls, promises and tests that it names are those there are.
 */
public final class ReadmeTest extends Check {
  private static final Path README = Path.of("README.md");
  private static final Path DOCUMENT = Path.of("../shared/DOC.md");
  private static final Path TESTS = Path.of("src/test/java");
  private static final Pattern ANSWERED = Pattern.compile("(\\w+(?:\\.\\w+)?\\(.*\\)); // (-?\\d+|true|false)\\b.*");
  private static final Pattern MADE = Pattern.compile("DomeCalendar \\w+ = new DomeCalendar\\(\\);");

  public static void main(String[] args) throws Exception {
    String page = Files.readString(README);
    about("README.md");
    calls(page);
    promises(page);
    tests(page);
    due(".ci/run can be run", Files.isExecutable(Path.of(".ci/run")), true);
    List<String> members = new ArrayList<>();
    List<String> rows = new ArrayList<>();
    gather(page, members, rows);
    answers(members, rows);
  }

  /** Each call of the face is shown with what it answers, or stands in a function that is. */
  private static void calls(String page) {
    for (Method m : DomeCalendar.class.getDeclaredMethods()) {
      if (Modifier.isPublic(m.getModifiers())) {
        due("shows c." + m.getName(), page.contains("c." + m.getName() + "("), true);
      }
    }
  }

  /** The table of calls has each with its promise, as the document's headings do. */
  private static void promises(String page) throws IOException {
    Set<String> there = new TreeSet<>();
    Matcher heads = Pattern.compile("(?m)^## Promise (\\d+): (\\w+)$").matcher(Files.readString(DOCUMENT));
    while (heads.find()) {
      there.add(heads.group(2) + " " + heads.group(1));
    }
    Set<String> named = new TreeSet<>();
    Matcher rows = Pattern.compile("`(\\w+)` (\\d+)(?=,| \\|)").matcher(table(page));
    while (rows.find()) {
      named.add(rows.group(1) + " " + rows.group(2));
    }
    due("the promises " + there + " are named as " + named, named.equals(there) && there.size() == 31, true);
  }

  private static String table(String page) {
    StringBuilder s = new StringBuilder();
    for (String line : page.split("\n")) {
      s.append(line.startsWith("|") ? line : "").append('\n');
    }
    return s.toString();
  }

  private static void tests(String page) throws IOException {
    Set<String> there = new TreeSet<>();
    try (DirectoryStream<Path> files = Files.newDirectoryStream(TESTS, "*Test.java")) {
      for (Path file : files) {
        there.add(file.getFileName().toString().replace(".java", ""));
      }
    }
    Set<String> named = new TreeSet<>();
    Matcher names = Pattern.compile("`(\\w+Test)`").matcher(page);
    while (names.find()) {
      named.add(names.group(1));
    }
    due("the tests " + there + " are named as " + named, named.equals(there), true);
    Matcher method = Pattern.compile("`(promise\\d+\\w+)`").matcher(page);
    while (method.find()) {
      due("has a test " + method.group(1), hasMethod(there, method.group(1)), true);
    }
  }

  private static boolean hasMethod(Set<String> tests, String name) throws IOException {
    boolean found = false;
    for (String test : tests) {
      found |= Files.readString(TESTS.resolve(test + ".java")).contains(" void " + name + "()");
    }
    return found;
  }

  /** Blocks of functions go to the members, all other lines of Java to the rows. */
  private static void gather(String page, List<String> members, List<String> rows) {
    Matcher blocks = Pattern.compile("(?s)```java\n(.*?)```").matcher(page);
    while (blocks.find()) {
      String block = blocks.group(1);
      if (block.startsWith("static ")) {
        members.add(block);
      } else {
        rows.addAll(List.of(block.split("\n")));
      }
    }
  }

  private static void answers(List<String> members, List<String> rows) throws Exception {
    StringBuilder code = new StringBuilder("public final class ReadmeCalls extends Check {\n");
    members.forEach(code::append);
    code.append("public static void main(String[] args) {\nabout(\"README.md\");\n");
    int asked = 0;
    for (String row : rows) {
      Matcher answered = ANSWERED.matcher(row);
      if (answered.matches()) {
        asked++;
        String call = answered.group(1);
        code.append("due(\"").append(call.replace("\"", "\\\"")).append("\", ").append(call).append(", ");
        code.append(answered.group(2)).append(");\n");
      } else {
        due("tells what it answers: " + row, MADE.matcher(row).matches(), true);
        code.append(row).append('\n');
      }
    }
    due("shows calls", asked > 31, true);
    code.append("finish();\n}\n}\n");
    finish();
    runCompiled(code.toString());
  }

  /** In a loader of its own, as Check is not public: what it finds wrong ends the machine there. */
  private static void runCompiled(String code) throws Exception {
    Path place = Files.createTempDirectory("readme");
    Path source = place.resolve("ReadmeCalls.java");
    for (Path made : List.of(place, source, place.resolve("ReadmeCalls.class"))) {
      made.toFile().deleteOnExit();
    }
    Files.writeString(source, code);
    String classes = System.getProperty("java.class.path");
    int failed = ToolProvider.getSystemJavaCompiler()
        .run(null, null, null, "-cp", classes, "-d", place.toString(), source.toString());
    due("compiles", failed, 0);
    if (failed != 0) {
      finish();
    }
    List<URL> urls = new ArrayList<>(List.of(place.toUri().toURL()));
    for (String part : classes.split(File.pathSeparator)) {
      urls.add(Path.of(part).toUri().toURL());
    }
    try (URLClassLoader loader = new URLClassLoader(urls.toArray(new URL[0]), ClassLoader.getPlatformClassLoader())) {
      loader.loadClass("ReadmeCalls").getMethod("main", String[].class).invoke(null, (Object) new String[0]);
    }
  }
}
