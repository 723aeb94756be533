/** Promises 30 to 32: UNDO, THE IMAGE and look(). */
public final class MemoryTest {
  private static final int NONE = DomeCalendar.NONE;

  public static void main(String[] args) {
    undo();
    undoTakesAllBack();
    undoneFive();
    whatForgets();
    whatDoesNotForget();
    image();
    imageKeepsAll();
    look();
    Check.finish();
  }

  private static void undo() {
    Check.promise(30);
    DomeCalendar c = Check.make(Check.blocks(3), "");
    Check.due("nothing yet", c.undo(), false);
    c.weeks(2);
    Check.due("two can be undone", c.look(10), 2);
    Check.due("undo()", c.undo(), true);
    Check.row("WEEK, LAID, lines, undone", Check.looks(c, 2, 4, 7, 10), 1, 1, 3, 1);
    Check.due("undo()", c.undo(), true);
    Check.row("WEEK, LAID, lines, undone", Check.looks(c, 2, 4, 7, 10), 0, 0, 0, 0);
    Check.due("nothing more", c.undo(), false);
    Check.due("and on", c.weeks(1), 1);
    Check.row("WEEK, LAID, lines, undone", Check.looks(c, 2, 4, 7, 10), 1, 1, 3, 1);
  }

  private static void undoTakesAllBack() {
    Check.promise(30);
    DomeCalendar c = Check.stormy();
    for (int i = 0; i < 70; i++) {
      int[] before = Check.all(c);
      c.weeks(1);
      int[] behind = Check.all(c);
      c.rank(i % 4, i % 3);
      Check.due("undo", c.undo(), true);
      Check.row("all went back, ORDER too", Check.all(c), before);
      c.weeks(1);
      Check.row("the same draws again", Check.all(c), behind);
      c.rank(i % 3, i % 4);
    }
    Check.due("some fell", c.look(5) > 0, true);
    int split = 0;
    for (int i = 0; i < c.look(7); i++) {
      split += c.book(i, 2) == 4 ? 1 : 0;
    }
    Check.due("some split", split > 3, true);
  }

  private static void undoneFive() {
    Check.promise(30);
    DomeCalendar c = Check.stormy();
    c.weeks(3);
    c.weeks(60);
    Check.due("five are kept", c.look(10), 5);
    for (int i = 0; i < 5; i++) {
      Check.due("undo", c.undo(), true);
      Check.due("WEEK", c.look(2), 62 - i);
    }
    Check.due("no more", c.undo(), false);
    c.weeks(4);
    Check.due("four", c.look(10), 4);
    c.undo();
    c.undo();
    c.weeks(2);
    Check.due("four", c.look(10), 4);
    c.weeks(2);
    Check.due("five", c.look(10), 5);
    for (int i = 0; i < 5; i++) {
      c.undo();
    }
    Check.due("WEEK", c.look(2), 59);
    Check.due("no more", c.undo(), false);
    // A year in one call, undone, is the same as if its last weeks had never been.
    DomeCalendar d = Check.stormy();
    DomeCalendar e = Check.stormy();
    d.weeks(52);
    for (int i = 0; i < 5; i++) {
      d.undo();
    }
    e.weeks(47);
    Check.row("as if", Check.all(d), Check.all(e));
  }

  private static void forgets(String what, DomeCalendar c, boolean forgotten) {
    Check.due(what, c.look(10), forgotten ? 0 : 3);
    c.set(5, 1);
    c.weeks(3);
  }

  private static void whatForgets() {
    Check.promise(30);
    DomeCalendar c = Check.make(Check.blocks(3), "road 9;");
    c.weeks(3);
    c.set(0, 10);
    forgets("set", c, true);
    c.vein(0, true);
    forgets("vein", c, true);
    c.state(c.look(8));
    forgets("state", c, true);
    Check.tell(c, 0, Check.blocks(2));
    forgets("a dome", c, true);
    Check.tell(c, 1, "road 5;");
    forgets("a way", c, true);
    c.plan();
    forgets("a plan that is told", c, true);
    c.image(true);
    c.image(false);
    forgets("going back to the image", c, true);
  }

  private static void whatDoesNotForget() {
    Check.promise(30);
    DomeCalendar c = Check.make(Check.blocks(3), "road 9;");
    c.weeks(3);
    Check.tell(c, 2, "haul 3;");
    forgets("a law", c, false);
    Check.tell(c, 3, "wait 3;");
    forgets("a plan's text", c, false);
    c.rank(0, 2);
    forgets("rank", c, false);
    c.image(true);
    forgets("the taking of the image", c, false);
    c.set(12, 0);
    c.set(0, 100);
    c.vein(4, true);
    c.weeks(0);
    c.weeks(61);
    forgets("what can't be", c, false);
    Check.tell(c, 0, "block");
    Check.tell(c, 1, "road");
    Check.tell(c, 7, "road 1;");
    forgets("faulty texts", c, false);
    c.feed(1, 2, 3, 4, 5);
    c.end(0);
    forgets("the tape", c, false);
    c.closes();
    c.soonest(0);
    c.planned(1);
    c.fewest(99);
    forgets("thoughts", c, false);
    // THE LAW and A PLAN's text stay as they are told.
    Check.tell(c, 2, "haul 3;haul 4;");
    Check.tell(c, 3, "wait 3;wait 4;");
    c.undo();
    Check.row("told texts stay", Check.looks(c, 9, 12), 2, 2);
  }

  private static void image() {
    Check.promise(31);
    DomeCalendar c = Check.stormy();
    Check.due("none yet", c.image(false), false);
    c.weeks(4);
    Check.due("none yet changes nothing", c.look(10), 4);
    Check.due("taken", c.image(true), true);
    Check.due("what can be undone stays", c.look(10), 4);
    int[] then = Check.all(c);
    c.weeks(9);
    int[] later = Check.all(c);
    for (int i = 0; i < 3; i++) {
      Check.due("gone back to", c.image(false), true);
      Check.row("as it was", Check.all(c), then);
      Check.due("nothing can be undone", c.undo(), false);
      c.weeks(9);
      Check.row("all goes on alike", Check.all(c), later);
    }
    Check.due("taken anew", c.image(true), true);
    c.weeks(1);
    c.image(false);
    Check.row("the latest one", Check.all(c), later);
  }

  private static void imageKeepsAll() {
    Check.promise(31);
    DomeCalendar c = Check.stormy();
    Check.tell(c, 2, "haul 3;haul 4;");
    Check.tell(c, 3, "wait 3;hire 2;");
    c.vein(2, false);
    c.rank(3, 0);
    c.weeks(5);
    int[] then = Check.all(c);
    int closes = c.closes();
    long ways = c.ways(2);
    c.image(true);
    Check.tell(c, 0, Check.blocks(2));
    Check.tell(c, 1, "bridge 3;hill 4;road 1;");
    Check.tell(c, 2, "");
    Check.tell(c, 3, "");
    for (int k = 0; k < 12; k++) {
      c.set(k, 1 + k % 3);
    }
    c.vein(2, true);
    c.vein(1, false);
    c.state(5);
    c.weeks(7);
    Check.due("another book", c.look(7) > 3, true);
    Check.tell(c, 0, "block 1 x");
    Check.feed(c, "road 1;");
    c.image(false);
    Check.row("all that is and was told", Check.all(c), then);
    Check.due("closes", c.closes(), closes);
    Check.due("ways", c.ways(2), ways);
    Check.row("but fault()", new int[] {c.fault(0), c.fault(1)}, 1, 8);
    Check.due("but the tape", c.text(1), 1);
    Check.due("a way of one road", c.stretch(0, 1), 1);
    c.image(false);
    Check.row("more than once", Check.all(c), then);
  }

  private static void look() {
    Check.promise(32);
    DomeCalendar c = Check.make("block 5 of 0 west;block 3 of 0 east;block 1 of 1 west;", "river 10;bridge 9;");
    Check.tell(c, 2, "haul 30 when sort=2;haul 9;");
    Check.tell(c, 3, "again 3(wait 2;hire 1;)");
    c.set(3, 2);
    c.set(4, 2);
    c.set(6, 1000);
    c.set(11, 3);
    c.vein(1, false);
    c.weeks(2);
    int[] plain = Check.looks(c, 0, 1, 2, 3, 4, 5, 6, 7, 9, 10, 11, 12);
    Check.row("look", plain, 3, 2, 2, 4, 2, 0, 1, 10, 2, 2, 2, 6);
    Check.due("STATE", c.look(8), 1664525 * 1013904223 + 1013904223);
    c.weeks(3);
    Check.row("FALLS, SINCE, LAID, apart", Check.looks(c, 5, 6, 4, 11), 1, NONE, 0, 0);
    for (int k = 0; k < 12; k++) {
      c.set(k, 3 + k % 7);
    }
    for (int k = 0; k < 12; k++) {
      Check.due("look(" + (20 + k) + ")", c.look(20 + k), 3 + k % 7);
    }
    Check.row("veins", Check.looks(c, 40, 41, 42, 43), 1, 0, 1, 1);
    for (int what : new int[] {-1, 13, 19, 32, 39, 44, Integer.MAX_VALUE, Integer.MIN_VALUE}) {
      Check.due("look(" + what + ")", c.look(what), -1000);
    }
    c.state(-5);
    Check.due("STATE as it is", c.look(8), -5);
  }
}
