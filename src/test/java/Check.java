import java.util.ArrayList;
import java.util.List;

/** What the tests of the promises share: telling texts, and counting what is not as due. */
abstract class Check {
  static final int NONE = DomeCalendar.NONE;
  private static int wrong = 0;
  private static int asked = 0;
  private static String about = "";

  static void promise(int number) {
    about = "promise " + number;
  }

  static void about(String test) {
    about = test;
  }

  static int asked() {
    return asked;
  }

  static void due(String what, long got, long want) {
    asked++;
    if (got != want) {
      wrong++;
      System.out.println(about + ": " + what + " answered " + got + ", due is " + want);
    }
  }

  static void due(String what, boolean got, boolean want) {
    due(what, got ? 1 : 0, want ? 1 : 0);
  }

  static void row(String what, int[] got, int... want) {
    due(what + ", how many", got.length, want.length);
    for (int i = 0; i < want.length && i < got.length; i++) {
      due(what + " [" + i + "]", got[i], want[i]);
    }
  }

  static void finish() {
    System.out.println(asked + " answers asked, " + wrong + " not as due");
    if (wrong != 0) {
      System.exit(1);
    }
  }

  static void feed(DomeCalendar c, String text) {
    for (int from = 0; from < text.length(); from += 20) {
      int[] v = new int[5];
      for (int i = 0; i < 20; i++) {
        v[i / 4] = v[i / 4] << 8 | (from + i < text.length() ? text.charAt(from + i) : 32);
      }
      c.feed(v[0], v[1], v[2], v[3], v[4]);
    }
    c.end(text.length());
  }

  static int tell(DomeCalendar c, int k, String text) {
    feed(c, text);
    return c.text(k);
  }

  static DomeCalendar make(String dome, String way) {
    DomeCalendar c = new DomeCalendar();
    due("text(0) of " + dome, tell(c, 0, dome) != NONE, true);
    due("text(1) of " + way, tell(c, 1, way) != NONE, true);
    return c;
  }

  /** One in which it rains, floods, splits and falls. */
  static DomeCalendar stormy() {
    DomeCalendar c = make("block 3 of 0 west;block 2 of 3 east;block 1 of 1 west after 0;block 20 of 2 east;", "river 15;road 20;");
    c.state(77);
    c.set(0, 8);
    c.set(1, 20);
    c.set(2, 8);
    c.set(3, 2);
    c.set(6, 600);
    c.set(7, 300);
    c.set(8, 500);
    c.set(9, 8);
    c.set(11, 3);
    return c;
  }

  static String blocks(int n) {
    return "block 1 of 0 west;".repeat(n);
  }

  static int[] where(DomeCalendar c) {
    int[] row = new int[c.look(0)];
    for (int b = 0; b < row.length; b++) {
      row[b] = c.of(b, 4);
    }
    return row;
  }

  static int[] looks(DomeCalendar c, int... what) {
    int[] row = new int[what.length];
    for (int i = 0; i < row.length; i++) {
      row[i] = c.look(what[i]);
    }
    return row;
  }

  /** All that the class shows of itself, but what can be undone. */
  static int[] all(DomeCalendar c) {
    List<Integer> row = new ArrayList<>();
    for (int what = 0; what < 44; what++) {
      if (what != 10 && (what < 13 || what > 19 && what < 32 || what > 39)) {
        row.add(c.look(what));
      }
    }
    for (int b = 0; b < c.look(0); b++) {
      row.add(c.order(b));
      for (int what = 0; what < 15; what++) {
        row.add(c.of(b, what));
      }
    }
    for (int k = 0; k < c.look(1); k++) {
      for (int what = 0; what < 3; what++) {
        row.add(c.stretch(k, what));
      }
    }
    for (int i = 0; i < c.look(7); i++) {
      row.add(c.book(i, 0) * 10000 + c.book(i, 1) * 100 + c.book(i, 2) * 10 + c.book(i, 3));
    }
    return row.stream().mapToInt(Integer::intValue).toArray();
  }

  static void line(DomeCalendar c, int i, int week, int block, int what, int stretch) {
    row("book line " + i, new int[] {c.book(i, 0), c.book(i, 1), c.book(i, 2), c.book(i, 3)}, week, block, what, stretch);
  }

  static void order(DomeCalendar c, int... want) {
    for (int i = 0; i < want.length; i++) {
      due("order(" + i + ")", c.order(i), want[i]);
      due("of(" + want[i] + ", 7)", c.of(want[i], 7), i);
    }
    due("order behind the last", c.order(want.length), NONE);
  }

  static void waited(DomeCalendar c, int block, int... want) {
    for (int k = 0; k < 5; k++) {
      due("of(" + block + ", " + (10 + k) + ")", c.of(block, 10 + k), want[k]);
    }
  }
}
