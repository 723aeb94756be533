import java.lang.reflect.InvocationTargetException;
import java.lang.reflect.Method;
import java.util.ArrayList;
import java.util.Comparator;
import java.util.List;
import java.util.regex.Matcher;
import java.util.regex.Pattern;

/** What the tests of the bounds share. A test is a static method named by its promise, with the words it holds to. */
abstract class Bounds extends Check {
  static final int MIN = Integer.MIN_VALUE;
  static final int MAX = Integer.MAX_VALUE;

  // As set() tells them.
  static final int OXEN = 0;
  static final int GRASS = 1;
  static final int GROW = 2;
  static final int CUTTERS = 3;
  static final int MASONS = 4;
  static final int GREASE = 5;
  static final int RAIN = 6;
  static final int FLOOD = 7;
  static final int SPLIT = 8;
  static final int FROST = 9;
  static final int BALANCE = 10;
  static final int CENTRE = 11;

  private static final Pattern NAME = Pattern.compile("promise(\\d+)\\w+");
  private static final int TIMES = 1664525;
  private static final int MORE = 1013904223;

  static List<Method> testsOf(Class<?> tests) {
    List<Method> found = new ArrayList<>();
    for (Method m : tests.getDeclaredMethods()) {
      if (NAME.matcher(m.getName()).matches()) {
        found.add(m);
      }
    }
    found.sort(Comparator.comparingInt(Bounds::promiseOf).thenComparing(Method::getName));
    return found;
  }

  static int promiseOf(Method test) {
    Matcher m = NAME.matcher(test.getName());
    return m.matches() ? Integer.parseInt(m.group(1)) : 0;
  }

  static void run(Class<?> tests) {
    List<Method> all = testsOf(tests);
    for (Method test : all) {
      about(test.getName());
      int before = asked();
      try {
        test.invoke(null);
      } catch (InvocationTargetException e) {
        e.getCause().printStackTrace(System.out);
        due("threw " + e.getCause(), true, false);
      } catch (IllegalAccessException e) {
        due("can't be run: " + e, true, false);
      }
      if (asked() == before) {
        due("asked nothing", true, false);
      }
    }
    System.out.print(all.size() + " tests: ");
    finish();
  }

  /** The STATE from which one DRAW leads to the told one. */
  static int stateBefore(int next) {
    int inverse = 1;
    for (int i = 0; i < 5; i++) {
      inverse *= 2 - TIMES * inverse;
    }
    return (next - MORE) * inverse;
  }

  static int next(int state) {
    return (int) ((long) TIMES * state + MORE);
  }

  static int drawn(int state) {
    return (int) ((next(state) & 0xFFFFFFFFL) / 256 % 1000);
  }

  /** A STATE whose next DRAWS of 1000 are the told ones. */
  static int stateWith(int... draws) {
    for (int k = 0; k < 16777; k++) {
      for (int low = 0; low < 256; low += draws.length > 1 ? 1 : 256) {
        int start = stateBefore((draws[0] + 1000 * k) << 8 | low);
        int state = start;
        boolean fits = true;
        for (int i = 0; i < draws.length && fits; i++) {
          fits = drawn(state) == draws[i];
          state = next(state);
        }
        if (fits) {
          return start;
        }
      }
    }
    throw new IllegalStateException("no such state");
  }

  /** Weeks go by until the told one, without asking what they bring. */
  static void goTo(DomeCalendar c, int week) {
    for (int left = week - c.look(2); left > 0; left = week - c.look(2)) {
      c.weeks(Math.min(60, left));
    }
    due("WEEK", c.look(2), week);
  }

  /** The call that is refused changes nothing that can be seen, and what can be undone stays too. */
  static void unchanged(String what, DomeCalendar c, int[] before, int undone) {
    row(what + " changes nothing", all(c), before);
    due(what + " forgets nothing", c.look(10), undone);
  }

  static DomeCalendar dome(String text) {
    return make(text, "");
  }

  static void settings(DomeCalendar c, int... pairs) {
    for (int i = 0; i < pairs.length; i += 2) {
      due("set(" + pairs[i] + ", " + pairs[i + 1] + ")", c.set(pairs[i], pairs[i + 1]), true);
    }
  }

  static int[] ints(int... row) {
    return row;
  }

  static void text(DomeCalendar c, int k, String text, int count) {
    due("text(" + k + ") of \"" + text + "\"", tell(c, k, text), count);
    due("fault(0) of \"" + text + "\"", c.fault(0), 0);
    due("fault(1) of \"" + text + "\"", c.fault(1), NONE);
  }

  static void fine(int k, String text, int count) {
    text(new DomeCalendar(), k, text, count);
  }

  static void faulty(int k, String text, int fault, int place) {
    DomeCalendar c = new DomeCalendar();
    due("text(" + k + ") of \"" + text + "\"", tell(c, k, text), NONE);
    due("fault(0) of \"" + text + "\"", c.fault(0), fault);
    due("fault(1) of \"" + text + "\"", c.fault(1), place);
  }
}
