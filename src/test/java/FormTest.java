import java.io.IOException;
import java.lang.reflect.Field;
import java.lang.reflect.Method;
import java.lang.reflect.Modifier;
import java.nio.file.Files;
import java.nio.file.Path;
import java.util.ArrayList;
import java.util.Arrays;
import java.util.List;
import java.util.Set;
import java.util.TreeSet;
import java.util.regex.Matcher;
import java.util.regex.Pattern;

/** Rules of LANGUAGE.md that can be seen in the source and in the compiled class. */
public final class FormTest {
  private static final Path SOURCE = Path.of("src/main/java/DomeCalendar.java");
  private static final Set<String> FACE = new TreeSet<>(List.of("state", "set", "vein", "rank", "feed", "end", "text",
      "fault", "weeks", "plan", "planned", "of", "stretch", "order", "book", "closes", "soonest", "slack", "spare",
      "fewest", "can", "ways", "chain", "took", "blame", "herd", "without", "help", "undo", "image", "look"));
  private static final Set<String> LIBRARY = Set.of("Math.max", "Math.min", "Math.abs", "Integer.bitCount",
      "Arrays.fill", "System.arraycopy");
  private static int wrong = 0;

  public static void main(String[] args) throws IOException {
    String code = withoutComments(Files.readString(SOURCE));
    face();
    membersInside();
    words(code);
    library(code);
    methods(Files.readAllLines(SOURCE));
    System.out.println(wrong == 0 ? "the form is kept" : wrong + " faults of form");
    if (wrong != 0) {
      System.exit(1);
    }
  }

  private static void keep(boolean kept, String rule) {
    if (!kept) {
      wrong++;
      System.out.println("LANGUAGE.md " + rule);
    }
  }

  private static String withoutComments(String source) {
    return source.replaceAll("(?s)/\\*.*?\\*/", " ").replaceAll("//[^\n]*", " ").replaceAll("\"[^\"\n]*\"", "\"\"");
  }

  private static void face() {
    Class<?> type = DomeCalendar.class;
    Set<String> open = new TreeSet<>();
    for (Method m : type.getDeclaredMethods()) {
      if (Modifier.isPublic(m.getModifiers())) {
        open.add(m.getName());
        keep(m.getExceptionTypes().length == 0, "6: " + m + " throws");
      } else {
        keep(Modifier.isPrivate(m.getModifiers()), "1: " + m + " is neither public nor private");
        keep(!FACE.contains(m.getName()), "1: private " + m.getName());
      }
    }
    keep(open.equals(FACE), "1: the public methods are " + open);
    for (Field f : type.getDeclaredFields()) {
      boolean none = f.getName().equals("NONE");
      keep(Modifier.isPublic(f.getModifiers()) == none, "1: " + f);
      keep(none || Modifier.isPrivate(f.getModifiers()), "1: " + f);
    }
    keep(Modifier.isFinal(type.getModifiers()), "1: not final");
    keep(type.getConstructors().length == 1 && type.getDeclaredConstructors().length == 1, "1: constructors");
  }

  private static void membersInside() {
    List<Class<?>> types = new ArrayList<>(Arrays.asList(DomeCalendar.class.getDeclaredClasses()));
    keep(types.size() < 12, "11: " + types.size() + " classes");
    types.add(DomeCalendar.class);
    for (Class<?> type : types) {
      keep(Modifier.isStatic(type.getModifiers()) || type == DomeCalendar.class, "2: " + type + " is not static");
      int fields = 0;
      for (Field f : type.getDeclaredFields()) {
        if (!Modifier.isStatic(f.getModifiers())) {
          fields++;
        }
        keep(!Modifier.isStatic(f.getModifiers()) || Modifier.isFinal(f.getModifiers()), "5: " + f + " is not final");
      }
      keep(fields <= 20, "11: " + type + " has " + fields + " fields");
      for (Method m : type.getDeclaredMethods()) {
        keep(m.getParameterCount() <= 7, "11: " + m + " takes too many");
        keep(type == DomeCalendar.class || !FACE.contains(m.getName()), "1: " + m + " bears a public name");
      }
    }
  }

  private static void words(String code) {
    for (String word : List.of("package", "throw", "throws", "try", "catch", "finally", "synchronized", "assert", "native",
        "protected", "default ->", "Object", "hashCode", "toString", "Thread", "Random", "Iterator", "Exception")) {
      keep(!Pattern.compile("\\b" + word + "\\b").matcher(code).find(), "6, 13: " + word);
    }
    keep(!code.contains("->") && !code.contains("::"), "2: a lambda or a method reference");
    keep(!code.contains("@"), "4: an annotation");
    keep(!Pattern.compile("static\\s*\\{").matcher(code).find(), "5: a static block");
    Matcher imports = Pattern.compile("import ([^;]+);").matcher(code);
    while (imports.find()) {
      keep(imports.group(1).equals("java.util.Arrays"), "4: import " + imports.group(1));
    }
    keep(code.chars().allMatch(c -> c == '\n' || c >= 32 && c < 127), "4: a sign that is not plain");
  }

  private static void library(String code) {
    Matcher calls = Pattern.compile("\\b(Math|Integer|Long|Arrays|System|String)\\.(\\w+)").matcher(code);
    while (calls.find()) {
      keep(LIBRARY.contains(calls.group()), "4: " + calls.group());
    }
  }

  private static void methods(List<String> lines) {
    Pattern head = Pattern.compile("^( {2}| {4})(?! )(?!.*\\bclass\\b).*\\) \\{$");
    for (int i = 0; i < lines.size(); i++) {
      Matcher m = head.matcher(lines.get(i));
      if (m.find()) {
        int end = i;
        while (end < lines.size() && !lines.get(end).equals(m.group(1) + "}")) {
          end++;
        }
        keep(end - i < 60, "11: line " + (i + 1) + ": a method of " + (end - i + 1) + " lines");
      }
      keep(lines.get(i).length() <= 120, "line " + (i + 1) + " is too long to read");
    }
  }
}
