/** Promises 11 and 12 at their bounds: A PLAN that is told, and what it would bring. */
public final class BoundsOfPlanTest extends Bounds {
  public static void main(String[] args) {
    run(BoundsOfPlanTest.class);
  }

  // ---- promise 11: plan

  @Says("A PLAN is told: how many WEEKS went by.")
  static void promise11HowManyWeeks() {
    DomeCalendar c = dome(blocks(3));
    String[] plans = {"", "hire 1;", "wait 1;", "wait 60;", "again 9(wait 60;)", "again 1(wait 1;wait 1;)", "again 3()"};
    int[] weeks = {0, 0, 1, 60, 540, 2, 0};
    int week = 0;
    for (int i = 0; i < plans.length; i++) {
      tell(c, 3, plans[i]);
      due("plan() of " + plans[i], c.plan(), weeks[i]);
      week += weeks[i];
      due("WEEK", c.look(2), week);
    }
    row("LAID, lines", looks(c, 4, 7), 3, 9);
  }

  @Says("NONE, and nothing is done, if WEEK would be above 9999.")
  static void promise11WeekNotAbove9999() {
    DomeCalendar c = dome(blocks(2));
    settings(c, CUTTERS, 0);
    goTo(c, 9939);
    c.image(true);
    for (String plan : new String[] {"hire 1;rank 1 to 0;shut 1;wait 60;", "wait 59;wait 1;", "again 2(wait 30;)", "wait 60;masons 0;"}) {
      c.image(false);
      tell(c, 3, plan);
      due("to 9999: " + plan, c.plan(), 60);
      due("WEEK", c.look(2), 9999);
      c.image(false);
      c.weeks(1);
      tell(c, 3, plan);
      int[] before = all(c);
      due("to 10000: " + plan, c.plan(), NONE);
      unchanged(plan, c, before, 1);
    }
    tell(c, 3, "wait 58;");
    due("to 9998", c.plan(), 58);
    tell(c, 3, "wait 2;");
    due("to 10000", c.plan(), NONE);
    tell(c, 3, "wait 1;");
    due("to 9999", c.plan(), 1);
    due("from 9999", c.plan(), NONE);
    tell(c, 3, "cutters 4;");
    due("no WEEKS in 9999", c.plan(), 0);
    row("done: WEEK, CUTTERS", looks(c, 2, 23), 9999, 4);
    // As many as one telling can have.
    DomeCalendar e = new DomeCalendar();
    text(e, 3, "again 9(again 9(wait 60;)again 2(wait 60;))wait 60;", 100);
    due("6000", e.plan(), 6000);
    due("12000", e.plan(), NONE);
    due("WEEK", e.look(2), 6000);
  }

  @Says({"A PLAN that is told: STEP by STEP: wait: so many WEEKS;"})
  static void promise11StepByStep() {
    DomeCalendar c = dome(blocks(4));
    text(c, 3, "cutters 0;wait 2;cutters 2;masons 0;wait 1;cutters 0;masons 1;wait 3;cutters 2;shut 0;wait 2;open 0;wait 1;", 13);
    due("plan()", c.plan(), 9);
    line(c, 0, 2, 0, 0, 0);
    line(c, 1, 2, 1, 0, 0);
    line(c, 4, 3, 0, 3, 0);
    line(c, 5, 4, 1, 3, 0);
    line(c, 6, 8, 2, 0, 0);
    line(c, 7, 8, 3, 0, 0);
    line(c, 10, 8, 2, 3, 0);
    row("lines, LAID, CUTTERS, MASONS", looks(c, 7, 4, 23, 24), 11, 3, 2, 1);
    row("where", where(c), 4, 4, 4, 3);
  }

  @Says("rank: as rank() (nothing, if it can't be);")
  static void promise11Rank() {
    DomeCalendar c = dome(blocks(3));
    text(c, 3, "rank 2 to 0;", 1);
    c.plan();
    order(c, 2, 0, 1);
    text(c, 3, "rank 2 to 2;", 1);
    c.plan();
    order(c, 0, 1, 2);
    text(c, 3, "rank 3 to 0;rank 0 to 3;rank 13 to 13;rank 2 to 3;hire 1;", 5);
    due("plan()", c.plan(), 0);
    order(c, 0, 1, 2);
    due("the next STEP is done", c.look(20), 11);
    text(c, 0, blocks(14), 14);
    text(c, 3, "rank 13 to 0;rank 0 to 13;", 2);
    c.plan();
    order(c, 13, 1, 2, 3, 4, 5, 6, 7, 8, 9, 10, 11, 12, 0);
    text(c, 0, "", 0);
    due("without blocks", c.plan(), 0);
    due("order(0)", c.order(0), NONE);
  }

  private static int oxenBehind(int oxen, String step) {
    DomeCalendar c = new DomeCalendar();
    settings(c, OXEN, oxen);
    text(c, 3, step, 1);
    due("plan()", c.plan(), 0);
    return c.look(20);
  }

  @Says("hire: so many OXEN more (99 at most);")
  static void promise11Hire() {
    int[][] due = {{0, 1, 1}, {0, 99, 99}, {1, 98, 99}, {1, 99, 99}, {97, 1, 98}, {98, 1, 99}, {98, 2, 99}, {99, 1, 99}, {99, 99, 99}};
    for (int[] d : due) {
      due(d[0] + " and " + d[1], oxenBehind(d[0], "hire " + d[1] + ";"), d[2]);
    }
  }

  @Says("sell: so many less (0 at least);")
  static void promise11Sell() {
    int[][] due = {{0, 1, 0}, {1, 1, 0}, {1, 2, 0}, {2, 1, 1}, {99, 98, 1}, {99, 99, 0}, {98, 99, 0}, {0, 99, 0}};
    for (int[] d : due) {
      due(d[0] + " less " + d[1], oxenBehind(d[0], "sell " + d[1] + ";"), d[2]);
    }
  }

  @Says("open, shut: a VEIN;")
  static void promise11OpenAndShut() {
    for (int v : ints(0, 1, 2, 3)) {
      DomeCalendar c = new DomeCalendar();
      text(c, 3, "shut " + v + ";", 1);
      c.plan();
      for (int w = 0; w < 4; w++) {
        due("shut " + v + ": " + w, c.look(40 + w), w == v ? 0 : 1);
      }
      c.plan();
      due("shut once more", c.look(40 + v), 0);
      text(c, 3, "shut 0;shut 1;shut 2;shut 3;open " + v + ";", 5);
      c.plan();
      for (int w = 0; w < 4; w++) {
        due("open " + v + ": " + w, c.look(40 + w), w == v ? 1 : 0);
      }
    }
  }

  @Says("cutters, masons: CUTTERS, MASONS are so many.")
  static void promise11CuttersAndMasons() {
    for (int n : ints(0, 1, 8, 9)) {
      DomeCalendar c = new DomeCalendar();
      text(c, 3, "cutters " + n + ";", 1);
      c.plan();
      row("cutters", looks(c, 23, 24), n, 1);
      text(c, 3, "masons " + n + ";", 1);
      c.plan();
      row("masons", looks(c, 23, 24), n, n);
    }
  }

  @Says("Nothing can be undone behind it.")
  static void promise11NothingCanBeUndone() {
    for (String plan : new String[] {"", "hire 1;", "wait 1;", "wait 9;", "again 9()"}) {
      DomeCalendar c = dome(blocks(3));
      c.weeks(3);
      tell(c, 3, plan);
      due("ahead", c.look(10), 3);
      c.plan();
      due("behind " + plan, c.look(10), 0);
      due("undo()", c.undo(), false);
      c.weeks(1);
      due("the WEEK behind it", c.look(10), 1);
    }
  }

  @Says("A PLAN that is told")
  static void promise11WithDrawsAndLines() {
    DomeCalendar c = dome(blocks(2));
    settings(c, RAIN, 1000);
    text(c, 3, "again 3(wait 2;)", 3);
    due("plan()", c.plan(), 6);
    DomeCalendar d = dome(blocks(2));
    settings(d, RAIN, 1000);
    text(d, 3, "again 3(wait 2;)", 3);
    d.weeks(6);
    row("as six WEEKS", all(c), all(d));
  }

  // ---- promise 12: planned

  @Says("PLANNED what 0 how many are LAID, 1 the WEEK (NONE). NONE for another what.")
  static void promise12What() {
    DomeCalendar c = dome(blocks(3));
    text(c, 3, "wait 2;", 1);
    row("planned", ints(c.planned(0), c.planned(1)), 2, 2);
    for (int what : ints(-1, 2, 3, 10, MIN, MAX)) {
      due("planned(" + what + ")", c.planned(what), NONE);
    }
    text(c, 3, "shut 0;", 1);
    row("it does not close", ints(c.planned(0), c.planned(1)), 0, NONE);
  }

  @Says("PLANNED: how many are LAID behind A PLAN, if it were told now;")
  static void promise12HowManyAreLaid() {
    DomeCalendar c = dome(blocks(3));
    due("an empty plan", c.planned(0), 0);
    int[] due = {1, 2, 3, 3};
    for (int n = 1; n <= 4; n++) {
      text(c, 3, "wait " + n + ";", 1);
      due("wait " + n, c.planned(0), due[n - 1]);
    }
    c.weeks(1);
    text(c, 3, "wait 1;", 1);
    due("one is laid already", c.planned(0), 2);
    text(c, 3, "hire 1;", 1);
    due("one is laid already, no WEEKS", c.planned(0), 1);
    DomeCalendar none = new DomeCalendar();
    text(none, 3, "wait 60;", 1);
    row("no blocks", ints(none.planned(0), none.planned(1)), 0, NONE);
    // What has fallen is not LAID.
    DomeCalendar d = dome("block 1 of 0 west;block 1 of 1 west;");
    d.vein(1, false);
    settings(d, CENTRE, 2);
    text(d, 3, "wait 2;", 1);
    due("ahead of the fall", d.planned(0), 1);
    text(d, 3, "wait 3;", 1);
    due("behind the fall", d.planned(0), 0);
  }

  @Says({"when it CLOSES if it goes on so behind it", "(if it closed in it: then; all LAID ahead of it: as CLOSES now)."})
  static void promise12InItAheadAndBehind() {
    DomeCalendar c = dome(blocks(3));
    for (int n = 1; n <= 5; n++) {
      text(c, 3, "wait " + n + ";", 1);
      due("closes in WEEK 2, wait " + n, c.planned(1), 2);
    }
    text(c, 3, "wait 2;masons 0;", 2);
    due("not in it, and never behind it", c.planned(1), NONE);
    text(c, 3, "wait 3;masons 0;shut 0;", 3);
    due("in its last WEEK", c.planned(1), 2);
    text(c, 3, "wait 1;cutters 9;masons 9;", 3);
    due("soon behind it", c.planned(1), 1);
    c.weeks(3);
    due("CLOSES", c.closes(), 2);
    text(c, 3, "wait 60;masons 0;", 2);
    row("all LAID ahead of it", ints(c.planned(0), c.planned(1)), 3, 2);
    c.weeks(5);
    row("as CLOSES now", ints(c.planned(1), c.closes()), 7, 7);
  }

  @Says("when it CLOSES if it goes on so behind it")
  static void promise12ThreeHundredWeeksBehindIt() {
    DomeCalendar c = make(blocks(1), "road 99;road 99;road 99;road 3;");
    text(c, 2, "haul 1;", 1);
    text(c, 3, "shut 0;wait 5;open 0;", 3);
    due("the 300th behind it", c.planned(1), 304);
    text(c, 1, "road 99;road 99;road 99;road 4;", 4);
    due("the 301st behind it", c.planned(1), NONE);
    text(c, 3, "wait 1;", 1);
    due("the 300th behind it", c.planned(1), 300);
    text(c, 3, "again 5(wait 60;)", 5);
    due("one WEEK is left", c.planned(1), 300);
    text(c, 3, "again 5(wait 60;)wait 1;", 6);
    row("in it, beyond 300 WEEKS from now", ints(c.planned(0), c.planned(1)), 1, 300);
  }

  @Says("(nothing of it stays; no DRAWS: dry, no floods, none split)")
  static void promise12NothingOfItStays() {
    DomeCalendar c = make("block 3 of 0 west;block 3 of 1 east;block 2 of 2 west;", "river 30;road 15;");
    settings(c, CUTTERS, 2, RAIN, 1000, FLOOD, 1000, SPLIT, 1000, FROST, 3, CENTRE, 2);
    text(c, 3, "rank 0 to 2;hire 9;shut 1;cutters 9;masons 9;wait 9;", 6);
    c.weeks(2);
    int[] before = all(c);
    c.planned(0);
    c.planned(1);
    unchanged("planned", c, before, 2);
    DomeCalendar d = make(blocks(1), "river 30;");
    settings(d, RAIN, 1000, FLOOD, 1000);
    text(d, 2, "haul 10 when wet=0;haul 1;", 2);
    text(d, 3, "wait 2;", 1);
    due("dry, no floods", d.planned(0), 0);
    text(d, 3, "wait 3;", 1);
    due("dry, no floods", d.planned(0), 1);
    due("the true ones are wet and bring it at once", d.weeks(1), 1);
  }
}
