/** Promises 30 and 31 at their bounds: WEEKS undone, and THE IMAGE. */
public final class BoundsOfMemoryTest extends Bounds {
  public static void main(String[] args) {
    run(BoundsOfMemoryTest.class);
  }

  // ---- promise 30: undo

  @Says("UNDO: true; false if there is nothing.")
  static void promise30Nothing() {
    DomeCalendar c = stormy();
    int[] before = all(c);
    due("no WEEK yet", c.undo(), false);
    unchanged("undo of nothing", c, before, 0);
    c.weeks(1);
    due("one WEEK", c.undo(), true);
    unchanged("undo of one WEEK", c, before, 0);
    due("nothing more", c.undo(), false);
    due("nothing more", c.undo(), false);
    unchanged("undo of nothing", c, before, 0);
    c.weeks(2);
    row("two", ints(c.undo() ? 1 : 0, c.undo() ? 1 : 0, c.undo() ? 1 : 0), 1, 1, 0);
    unchanged("undo of two WEEKS", c, before, 0);
  }

  @Says("5 are kept")
  static void promise30FiveAreKept() {
    for (int weeks : ints(1, 4, 5, 6, 7, 59, 60)) {
      DomeCalendar c = stormy();
      int kept = Math.min(5, weeks);
      c.weeks(weeks);
      due("behind " + weeks, c.look(10), kept);
      for (int i = 1; i <= kept; i++) {
        due("undo " + i, c.undo(), true);
        row("WEEK, undone", looks(c, 2, 10), weeks - i, kept - i);
      }
      due("no more", c.undo(), false);
      due("WEEK", c.look(2), weeks - kept);
    }
    DomeCalendar c = stormy();
    for (int i = 0; i < 7; i++) {
      c.weeks(1);
    }
    due("one by one", c.look(10), 5);
    c.undo();
    c.undo();
    c.weeks(1);
    due("two undone, one more", c.look(10), 4);
    c.weeks(2);
    due("five at most", c.look(10), 5);
    for (int i = 0; i < 5; i++) {
      c.undo();
    }
    row("WEEK, undone", looks(c, 2, 10), 3, 0);
  }

  @Says("UNDO: the latest WEEK not undone yet goes back (STATE, ORDER, THE BOOK, too):")
  static void promise30AllGoesBack() {
    DomeCalendar c = stormy();
    for (int i = 0; i < 12; i++) {
      int[] first = all(c);
      c.weeks(1);
      int[] second = all(c);
      c.weeks(1);
      due("undo", c.undo(), true);
      row("one back", all(c), second);
      due("undo", c.undo(), true);
      row("two back", all(c), first);
      c.weeks(3);
    }
  }

  @Says("(STATE, ORDER, THE BOOK, too)")
  static void promise30StateOrderAndBook() {
    DomeCalendar c = dome(blocks(3));
    settings(c, RAIN, 500);
    c.rank(2, 0);
    int state = c.look(8);
    c.weeks(1);
    c.rank(0, 0);
    order(c, 0, 2, 1);
    row("ahead: lines, STATE", looks(c, 7, 8), 3, next(state));
    c.undo();
    order(c, 2, 0, 1);
    row("back: lines, STATE", looks(c, 7, 8), 0, state);
    due("no line", c.book(0, 0), NONE);
    c.rank(1, 0);
    c.weeks(1);
    line(c, 0, 0, 1, 0, 0);
    due("lines", c.look(7), 3);
    // Back from a full book.
    DomeCalendar d = dome("block 1 of 0 west;block 1 of 1 west;");
    d.vein(1, false);
    settings(d, CENTRE, 1);
    goTo(d, 199);
    due("200 lines", d.look(7), 200);
    d.undo();
    row("WEEK, lines", looks(d, 2, 7), 198, 200);
    d.undo();
    row("WEEK, lines", looks(d, 2, 7), 197, 199);
    due("the 200th is gone", d.book(199, 0), NONE);
    d.vein(1, true);
    d.weeks(1);
    line(d, 199, 197, 1, 0, 0);
  }

  /** Fourteen, each of which has waited for something, and a BOOK of many lines. */
  private static DomeCalendar fourteen() {
    DomeCalendar c = make("block1of0west;block2of1east;".repeat(7), "river 9;bridge 1;road 20;hill 9;");
    settings(c, OXEN, 9, GRASS, 9999, CUTTERS, 9, RAIN, 500, SPLIT, 300, FROST, 9, CENTRE, 4, MASONS, 2);
    c.weeks(30);
    for (int b = 0; b < 14; b++) {
      due("waited", c.of(b, 10) + c.of(b, 11) + c.of(b, 12) + c.of(b, 13) + c.of(b, 14) > 0, true);
    }
    return c;
  }

  @Says("goes back")
  static void promise30FourteenGoBack() {
    DomeCalendar c = fourteen();
    int[] before = all(c);
    c.weeks(5);
    for (int i = 0; i < 5; i++) {
      c.undo();
    }
    unchanged("undo of five WEEKS", c, before, 0);
    c.image(true);
    c.weeks(9);
    c.image(false);
    unchanged("going back to the image", c, before, 0);
  }

  private static DomeCalendar threeWeeksOn() {
    DomeCalendar c = make(blocks(3), "river 50;");
    text(c, 3, "hire 1;", 1);
    c.image(true);
    c.weeks(3);
    due("three can be undone", c.look(10), 3);
    return c;
  }

  @Says("whatever else is told but THE LAW, A PLAN's text, ORDER (the taking of THE IMAGE does not) forgets them.")
  static void promise30WhatForgets() {
    for (int k = 0; k < 12; k++) {
      DomeCalendar c = threeWeeksOn();
      due("set " + k, c.set(k, c.look(20 + k)), true);
      row("behind set", ints(c.look(10), c.undo() ? 1 : 0), 0, 0);
    }
    DomeCalendar c = threeWeeksOn();
    c.state(c.look(8));
    row("state", ints(c.look(10), c.undo() ? 1 : 0), 0, 0);
    c = threeWeeksOn();
    c.vein(0, true);
    row("vein", ints(c.look(10), c.undo() ? 1 : 0), 0, 0);
    c = threeWeeksOn();
    text(c, 0, blocks(1), 1);
    row("the dome", ints(c.look(10), c.undo() ? 1 : 0), 0, 0);
    c = threeWeeksOn();
    text(c, 1, "", 0);
    row("the way", ints(c.look(10), c.undo() ? 1 : 0), 0, 0);
    c = threeWeeksOn();
    c.plan();
    row("a plan that is told", ints(c.look(10), c.undo() ? 1 : 0), 0, 0);
    c = threeWeeksOn();
    c.image(false);
    row("the image gone back to", ints(c.look(10), c.undo() ? 1 : 0), 0, 0);
  }

  @Says("but THE LAW, A PLAN's text, ORDER (the taking of THE IMAGE does not)")
  static void promise30WhatDoesNotForget() {
    DomeCalendar c = threeWeeksOn();
    text(c, 2, "haul 4;", 1);
    due("the law", c.look(10), 3);
    text(c, 3, "wait 1;wait 1;", 2);
    due("a plan's text", c.look(10), 3);
    due("rank", c.rank(2, 0), true);
    due("ORDER", c.look(10), 3);
    due("image", c.image(true), true);
    due("the taking of the image", c.look(10), 3);
    for (int i = 2; i >= 0; i--) {
      due("undo", c.undo(), true);
      row("WEEK, undone", looks(c, 2, 10), i, i);
    }
    row("law and plan stay as told", looks(c, 9, 12), 1, 2);
    order(c, 0, 1, 2);
    c.weeks(1);
    due("by the law as told", c.of(0, 6), 4);
  }

  @Says("whatever else is told")
  static void promise30WhatIsRefusedIsNotTold() {
    DomeCalendar c = threeWeeksOn();
    c.set(OXEN, 100);
    c.set(OXEN, -1);
    c.set(12, 0);
    c.vein(4, true);
    c.vein(-1, true);
    c.rank(3, 0);
    c.weeks(0);
    c.weeks(61);
    tell(c, 0, "block");
    tell(c, 1, "road 100;");
    tell(c, 2, "haul 1/0;");
    tell(c, 3, "wait 61;");
    tell(c, 4, "wait 1;");
    tell(c, -1, "wait 1;");
    c.feed(1, 2, 3, 4, 5);
    c.end(0);
    due("three can still be undone", c.look(10), 3);
    c.closes();
    c.soonest(0);
    c.slack(2);
    c.spare();
    c.fewest(99);
    c.planned(1);
    c.without(0);
    c.help(0);
    c.herd(100, 0);
    c.ways(2);
    due("three can still be undone", c.look(10), 3);
    due("undo", c.undo(), true);
    due("WEEK", c.look(2), 2);
    DomeCalendar none = dome(blocks(1));
    none.weeks(2);
    due("no image", none.image(false), false);
    due("two can still be undone", none.look(10), 2);
    DomeCalendar late = new DomeCalendar();
    text(late, 3, "wait 1;", 1);
    goTo(late, 9999);
    due("no WEEK more", late.weeks(1), NONE);
    due("no plan more", late.plan(), NONE);
    due("five can still be undone", late.look(10), 5);
  }

  // ---- promise 31: image

  @Says("THE IMAGE is taken (true), or gone back to (false): true; false if there is none.")
  static void promise31NoneYet() {
    DomeCalendar c = stormy();
    c.weeks(3);
    int[] before = all(c);
    due("none yet", c.image(false), false);
    due("none yet", c.image(false), false);
    unchanged("going back to none", c, before, 3);
    due("taken", c.image(true), true);
    unchanged("the taking", c, before, 3);
    c.weeks(4);
    due("gone back to", c.image(false), true);
    unchanged("gone back to", c, before, 0);
  }

  @Says({"THE IMAGE: all that is and was told but the TAPE, fault() and what can be undone (nothing then), as it was when it was taken;"})
  static void promise31AllButTheTape() {
    DomeCalendar c = stormy();
    text(c, 2, "haul 7;haul 8;", 2);
    text(c, 3, "wait 2;hire 3;", 2);
    c.vein(2, false);
    c.rank(3, 0);
    c.weeks(9);
    int[] then = all(c);
    c.image(true);
    text(c, 0, "block 1 of 1 east;block 1 of 1 east;", 2);
    text(c, 1, "river 1;bridge 1;", 2);
    text(c, 2, "", 0);
    text(c, 3, "", 0);
    for (int k = 0; k < 12; k++) {
      c.set(k, 1);
    }
    c.vein(2, true);
    c.vein(0, false);
    c.state(1);
    c.weeks(20);
    due("another book", c.look(7) > 4, true);
    tell(c, 3, " x");
    feed(c, "road 6;");
    due("gone back to", c.image(false), true);
    unchanged("gone back to", c, then, 0);
    row("fault() stays", ints(c.fault(0), c.fault(1)), 1, 1);
    due("the tape stays", c.text(1), 1);
    row("road 6, and the dome of the image", ints(c.stretch(0, 0), c.stretch(0, 1), c.look(1), c.look(0), c.of(0, 0)), 0, 6, 1, 4, 3);
    c.image(false);
    text(c, 0, blocks(1), 1);
    row("the way of the image", ints(c.look(1), c.stretch(1, 1)), 2, 20);
    c.image(false);
    row("and once more", all(c), then);
    due("its plan", c.plan(), 2);
  }

  @Says("gone back to it may be more than once.")
  static void promise31MoreThanOnce() {
    DomeCalendar c = stormy();
    c.weeks(2);
    c.image(true);
    int[] then = all(c);
    c.weeks(5);
    int[] later = all(c);
    for (int i = 0; i < 3; i++) {
      due("gone back to", c.image(false), true);
      row("as it was", all(c), then);
      c.weeks(5);
      row("all goes on alike", all(c), later);
    }
    due("gone back twice at once", c.image(false) && c.image(false), true);
    row("as it was", all(c), then);
    c.weeks(5);
    due("taken anew", c.image(true), true);
    c.weeks(1);
    c.image(false);
    row("the latest image", all(c), later);
  }

  @Says("what can be undone (nothing then)")
  static void promise31NothingToUndoThen() {
    DomeCalendar c = stormy();
    c.weeks(5);
    c.image(true);
    due("behind the taking", c.look(10), 5);
    c.undo();
    c.undo();
    due("WEEK", c.look(2), 3);
    c.image(false);
    row("WEEK, undone", looks(c, 2, 10), 5, 0);
    due("undo", c.undo(), false);
    c.weeks(1);
    due("undo", c.undo(), true);
    due("WEEK", c.look(2), 5);
  }
}
