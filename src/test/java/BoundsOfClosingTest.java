/** Promises 17 to 21, 28 and 29 at their bounds: when it CLOSES, and by what sooner or no later. */
public final class BoundsOfClosingTest extends Bounds {
  public static void main(String[] args) {
    run(BoundsOfClosingTest.class);
  }

  /** One that is on its way for so many weeks, one a week. */
  private static DomeCalendar slow(int weeks) {
    StringBuilder way = new StringBuilder();
    for (int left = weeks; left > 0; left -= 99) {
      way.append("river ").append(Math.min(99, left)).append(';');
    }
    DomeCalendar c = make(blocks(1), way.toString());
    text(c, 2, "haul 1;", 1);
    return c;
  }

  /** Block 0 takes so many weeks, block 1 one; both can be cut and laid at once. */
  private static DomeCalendar slowAndFast(int weeks) {
    DomeCalendar c = make("block 1 of 0 west;block 2 of 1 west;", "river " + weeks + ";");
    text(c, 2, "haul 1 when size=1;haul 99;", 2);
    settings(c, CUTTERS, 2, MASONS, 2);
    return c;
  }

  // ---- promise 17: closes

  @Says("CLOSES: the WEEK in which the last one is LAID, if it goes on so (300 WEEKS from now at most;")
  static void promise17ThreeHundredWeeks() {
    for (int now : ints(0, 1, 60)) {
      for (int weeks = 299; weeks <= 301; weeks++) {
        DomeCalendar c = slow(weeks);
        settings(c, CUTTERS, 0);
        goTo(c, now);
        settings(c, CUTTERS, 1);
        due(weeks + " weeks from " + now, c.closes(), weeks > 300 ? NONE : now + weeks - 1);
      }
    }
    DomeCalendar c = slow(301);
    due("301 weeks", c.closes(), NONE);
    c.weeks(1);
    due("300 weeks", c.closes(), 300);
    c.weeks(60);
    due("240 weeks", c.closes(), 300);
  }

  @Says("all are LAID now: the WEEK ahead of this one, or 0 in WEEK 0).")
  static void promise17AllAreLaid() {
    DomeCalendar c = dome(blocks(2));
    due("in WEEK 0", c.closes(), 1);
    c.weeks(1);
    due("one is left", c.closes(), 1);
    c.weeks(1);
    due("in WEEK 2", c.closes(), 1);
    c.weeks(1);
    due("in WEEK 3", c.closes(), 2);
    settings(c, MASONS, 0, CUTTERS, 0, BALANCE, 0);
    due("whatever is told", c.closes(), 2);
    goTo(c, 9999);
    due("in WEEK 9999", c.closes(), 9998);
    DomeCalendar one = dome(blocks(1));
    due("in WEEK 0", one.closes(), 0);
    one.weeks(1);
    due("laid in WEEK 0", one.closes(), 0);
  }

  @Says("CLOSES; NONE if not by then (without BLOCKS: NONE).")
  static void promise17NotByThen() {
    DomeCalendar none = new DomeCalendar();
    due("without blocks", none.closes(), NONE);
    none.weeks(5);
    due("without blocks in WEEK 5", none.closes(), NONE);
    text(none, 1, "road 1;", 1);
    due("a way alone", none.closes(), NONE);
    DomeCalendar c = dome(blocks(2));
    settings(c, CUTTERS, 0);
    due("no cutters", c.closes(), NONE);
    settings(c, CUTTERS, 1, MASONS, 0);
    due("no masons", c.closes(), NONE);
    settings(c, MASONS, 1, BALANCE, 1);
    due("more apart", c.closes(), NONE);
    settings(c, BALANCE, 2);
    due("not more apart", c.closes(), 1);
    c.vein(0, false);
    due("shut", c.closes(), NONE);
    c.vein(0, true);
    c.weeks(1);
    c.vein(0, false);
    due("shut, one is laid", c.closes(), NONE);
    DomeCalendar d = make("block 11 of 0 west;", "road 9;");
    settings(d, GRASS, 9999, OXEN, 9);
    // 9 and a calf are 10 in WEEK 26, and two more are 12 in WEEK 52.
    due("9 oxen", d.closes(), 52);
    settings(d, OXEN, 10);
    due("10 oxen", d.closes(), 26);
    settings(d, OXEN, 11);
    due("11 oxen", d.closes(), 0);
    settings(d, OXEN, 4);
    due("4 have no calves", d.closes(), NONE);
  }

  @Says("NONE if not by then")
  static void promise17InBalanceAtTheEnd() {
    for (String half : new String[] {"west", "east"}) {
      DomeCalendar c = dome("block 3 of 0 " + half + ";block 2 of 0 " + half + ";");
      int[] due = {NONE, 1, 1};
      for (int balance = 4; balance <= 6; balance++) {
        settings(c, BALANCE, balance);
        due("5 of the " + half + ", BALANCE " + balance, c.closes(), due[balance - 4]);
      }
    }
    // Even at the end, and never behind the first.
    DomeCalendar even = dome("block1of0west;block1of0east;".repeat(7));
    settings(even, CUTTERS, 9, MASONS, 9, BALANCE, 0);
    due("seven and seven, BALANCE 0", even.closes(), NONE);
    settings(even, BALANCE, 1);
    due("seven and seven, BALANCE 1", even.closes(), 1);
    DomeCalendar c = dome("block 3 of 0 west;block 8 of 0 east;");
    int[] due = {NONE, 1, 1};
    for (int balance = 4; balance <= 6; balance++) {
      settings(c, BALANCE, balance);
      due("3 and 8, BALANCE " + balance, c.closes(), due[balance - 4]);
    }
  }

  @Says("IN THOUGHT (nothing of it stays; no DRAWS: dry, no floods, none split).")
  static void promise17DryNoFloodsNoneSplit() {
    DomeCalendar c = make(blocks(1), "river 30;");
    settings(c, RAIN, 1000, FLOOD, 1000, SPLIT, 1000);
    text(c, 2, "haul 1 when wet=1;haul 10-mud;", 2);
    due("dry, no floods", c.closes(), 2);
    settings(c, FROST, 1);
    due("none split", c.closes(), 52);
    settings(c, FROST, 52, FLOOD, 0);
    text(c, 2, "haul 0;", 1);
    c.weeks(1);
    text(c, 2, "haul 10-mud*5;", 1);
    // MUD 2 is 1 in the next WEEK and 0 then: 5, 10, 10, 10.
    int[] before = all(c);
    due("MUD dries", c.closes(), 4);
    unchanged("closes", c, before, 1);
    settings(c, GRASS, 0, GROW, 9);
    before = all(c);
    c.closes();
    unchanged("closes", c, before, 0);
  }

  @Says("if it goes on so")
  static void promise17FallsInThought() {
    DomeCalendar c = make("block 1 of 0 west;block 2 of 0 west;", "river 30;");
    text(c, 2, "haul 30 when size=1;haul 10;", 2);
    settings(c, CUTTERS, 2);
    for (int centre = 0; centre <= 4; centre++) {
      settings(c, CENTRE, centre);
      // Laid in WEEK 0, the other comes and closes it in WEEK 2; with CENTRE 1 it has fallen in WEEK 1 and is laid anew.
      due("CENTRE " + centre, c.closes(), centre == 1 ? 3 : 2);
    }
  }

  @Says("if it goes on so")
  static void promise17WhatFallsCanCloseBehindThat() {
    // The fast one is laid at once, and with it the slow ones can't be; when it has fallen, all can by ORDER.
    DomeCalendar c = make("block 4 of 0 west;block 5 of 0 west;block 5 of 0 east after 1;", "river 30;");
    text(c, 2, "haul 30 when size=4;haul 10;", 2);
    settings(c, CUTTERS, 3, MASONS, 3, BALANCE, 5);
    c.rank(0, 2);
    due("never", c.closes(), NONE);
    for (int centre = 3; centre <= 5; centre++) {
      settings(c, CENTRE, centre);
      due("laid anew behind the fall of WEEK " + centre, c.closes(), centre + 1);
    }
    settings(c, CENTRE, 298);
    due("the last WEEK of all", c.closes(), 299);
    settings(c, CENTRE, 299);
    due("a WEEK too late", c.closes(), NONE);
  }

  @Says("300 WEEKS from now at most")
  static void promise17CalvesOfTheLastWeek() {
    // 5 are 31 in WEEK 312, by a fifth each half year, and 26 up to then; a hill needs 28 for 14.
    for (int now = 11; now <= 14; now++) {
      DomeCalendar c = make("block 14 of 0 west;", "hill 9;");
      goTo(c, now);
      settings(c, OXEN, 5, GRASS, 9999, GROW, 99);
      due("from WEEK " + now, c.closes(), now < 13 ? NONE : 312);
      due("fewest from WEEK " + now + " by WEEK 312", c.fewest(312) <= 5, now >= 13);
    }
  }

  @Says("if it goes on so")
  static void promise17GrassToTheLast() {
    // 10 eat 260 up to WEEK 26 and 12 eat 12 in it; with one less one of them dies ahead of the hauling.
    for (int grass = 271; grass <= 273; grass++) {
      DomeCalendar c = make("block 12 of 0 west;", "road 10;");
      settings(c, GRASS, grass, GROW, 0);
      due("GRASS " + grass, c.closes(), grass < 272 ? NONE : 26);
    }
  }

  @Says("if it goes on so")
  static void promise17WhoIsBehindTheHill() {
    DomeCalendar c = make("block 9 of 0 west;block 2 of 0 west;", "hill 10;road 20;");
    settings(c, OXEN, 18, CUTTERS, 2);
    c.weeks(1);
    row("one is behind the hill, one on it", ints(c.of(0, 5), c.of(1, 5)), 1, 0);
    settings(c, OXEN, 8);
    due("8 are too few on the road, until they calve in WEEK 26", c.closes(), 27);
    settings(c, OXEN, 9);
    due("9 are enough on the road", c.closes(), 5);
    settings(c, MASONS, 0);
    c.weeks(2);
    settings(c, MASONS, 1, OXEN, 3);
    row("one at the dome, one on the hill", where(c), 3, 2);
    due("3 are too few for the hill", c.closes(), NONE);
    settings(c, OXEN, 4);
    due("4 are enough", c.closes(), 5);
    c.weeks(3);
    settings(c, OXEN, 0, CUTTERS, 0);
    row("both laid", where(c), 4, 4);
    due("none is needed", c.closes(), 5);
    DomeCalendar d = make(blocks(2), "road 10;");
    settings(d, CUTTERS, 2, MASONS, 0);
    d.weeks(1);
    settings(d, OXEN, 0, GRASS, 0, MASONS, 1);
    row("none is needed at the dome", ints(d.of(1, 4), d.closes()), 3, 2);
    row("nor for the last one", ints(d.weeks(1), d.closes(), d.fewest(2)), 1, 2, 0);
  }

  // ---- promise 18: soonest

  private static int[] places(DomeCalendar c, int n) {
    int[] row = new int[n];
    for (int i = 0; i < n; i++) {
      row[i] = c.soonest(10 + i);
    }
    return row;
  }

  @Says({"SOONEST what 0 the WEEK (NONE), 10 + i the BLOCK at place i of that ORDER.",
      "NONE if more than six are not LAID, none is, none closes by then, or another what."})
  static void promise18What() {
    for (int n : ints(1, 2, 6)) {
      DomeCalendar c = dome(blocks(n));
      due("the WEEK", c.soonest(0), n - 1);
      for (int what : ints(-1, 1, 2, 9, 10 + n, 11 + n, 24, 100, MIN, MAX)) {
        due("soonest(" + what + ")", c.soonest(what), NONE);
      }
      due("the first", c.soonest(10), 0);
      due("the last", c.soonest(9 + n), n - 1);
    }
  }

  @Says({"SOONEST: of all ORDERS of those that are not LAID (6 at most), the others behind them as they stand,",
      "NONE if more than six are not LAID, none is"})
  static void promise18SixAtMost() {
    DomeCalendar c = dome(blocks(8));
    c.rank(7, 0);
    c.rank(3, 1);
    c.weeks(1);
    row("seven", ints(c.soonest(0), c.soonest(10), c.soonest(17)), NONE, NONE, NONE);
    c.weeks(1);
    due("six", c.soonest(0), 7);
    row("those first, then the laid ones", places(c, 9), 0, 1, 2, 4, 5, 6, 7, 3, NONE);
    c.rank(3, 0);
    row("the laid ones as they stand", places(c, 9), 0, 1, 2, 4, 5, 6, 3, 7, NONE);
    c.weeks(5);
    due("one", c.soonest(0), 7);
    row("the one, then the laid ones", places(c, 9), 6, 3, 7, 0, 1, 2, 4, 5, NONE);
    c.weeks(1);
    row("none", ints(c.soonest(0), c.soonest(10)), NONE, NONE);
    DomeCalendar all = dome("block1of0west;".repeat(14));
    all.weeks(7);
    due("seven of fourteen", all.soonest(0), NONE);
    all.weeks(1);
    due("six of fourteen", all.soonest(0), 13);
    row("six, and eight behind them", places(all, 15), 8, 9, 10, 11, 12, 13, 0, 1, 2, 3, 4, 5, 6, 7, NONE);
    DomeCalendar none = new DomeCalendar();
    row("no blocks", ints(none.soonest(0), none.soonest(10)), NONE, NONE);
    DomeCalendar seven = dome(blocks(7));
    row("seven of seven", ints(seven.soonest(0), seven.soonest(10)), NONE, NONE);
    DomeCalendar six = dome(blocks(6));
    row("six of six", ints(six.soonest(0), six.soonest(10), six.soonest(15)), 5, 0, 5);
  }

  @Says("that which CLOSES soonest; of several the first (BLOCK by BLOCK, the lesser).")
  static void promise18OfSeveralTheFirst() {
    // The last one must be laid first; all else is alike.
    DomeCalendar c = make("block 1 of 0 west;block 1 of 0 west;block 2 of 0 west;", "river 30;");
    text(c, 2, "haul 10 when size=2;haul 30;", 2);
    settings(c, MASONS, 2);
    due("as it stands", c.closes(), 4);
    row("soonest", ints(c.soonest(0), c.soonest(10), c.soonest(11), c.soonest(12)), 2, 2, 0, 1);
    c.rank(1, 0);
    row("by number, not as they stand", places(c, 3), 2, 0, 1);
    order(c, 1, 0, 2);
    DomeCalendar d = dome(blocks(3));
    d.rank(2, 0);
    d.rank(1, 1);
    row("all alike", places(d, 3), 0, 1, 2);
  }

  @Says("that which CLOSES soonest")
  static void promise18ByOneWeek() {
    DomeCalendar c = make("block 1 of 0 west;block 2 of 0 west;", "river 30;");
    text(c, 2, "haul 15 when size=2;haul 30;", 2);
    settings(c, MASONS, 2);
    due("as it stands", c.closes(), 2);
    row("the other ORDER", ints(c.soonest(0), c.soonest(10), c.soonest(11)), 1, 1, 0);
  }

  /** One is cut a WEEK, and the slower it is the sooner it must be: one ORDER alone is the soonest. */
  private static void oneOrder(int... order) {
    int n = order.length;
    int[] size = new int[n];
    for (int i = 0; i < n; i++) {
      size[order[i]] = n - i;
    }
    StringBuilder dome = new StringBuilder();
    for (int b = 0; b < n; b++) {
      dome.append("block ").append(size[b]).append(" of 0 west;");
    }
    DomeCalendar c = make(dome.toString(), "river 60;");
    text(c, 2, "haul 10 when size=6;haul 12 when size=5;haul 15 when size=4;haul 20 when size=3;haul 30 when size=2;haul 60;", 6);
    settings(c, MASONS, 9);
    due("the WEEK", c.soonest(0), n - 1);
    row("the ORDER", places(c, n), order);
  }

  @Says("of all ORDERS of those that are not LAID (6 at most)")
  static void promise18EachOrder() {
    oneOrder(0);
    oneOrder(0, 1);
    oneOrder(1, 0);
    oneOrder(0, 1, 2);
    oneOrder(0, 2, 1);
    oneOrder(1, 0, 2);
    oneOrder(1, 2, 0);
    oneOrder(2, 0, 1);
    oneOrder(2, 1, 0);
    oneOrder(0, 1, 2, 3, 4, 5);
    oneOrder(0, 1, 2, 3, 5, 4);
    oneOrder(0, 5, 4, 3, 2, 1);
    oneOrder(1, 0, 2, 3, 4, 5);
    oneOrder(2, 5, 4, 3, 1, 0);
    oneOrder(3, 0, 1, 2, 4, 5);
    oneOrder(5, 4, 3, 2, 0, 1);
    oneOrder(5, 4, 3, 2, 1, 0);
  }

  @Says("SOONEST: of all ORDERS")
  static void promise18AsAllStandsNow() {
    DomeCalendar c = make(blocks(3), "river 20;");
    due("at first", c.soonest(0), 3);
    settings(c, MASONS, 3, CUTTERS, 3);
    due("behind set", c.soonest(0), 1);
    text(c, 2, "haul 20;", 1);
    due("behind a law", c.soonest(0), 0);
    c.image(true);
    c.vein(0, false);
    due("behind vein", c.soonest(0), NONE);
    c.image(false);
    due("behind the image", c.soonest(0), 0);
    settings(c, CUTTERS, 1, MASONS, 1);
    c.weeks(1);
    row("behind weeks", ints(c.soonest(0), c.soonest(10), c.soonest(12)), 2, 1, 0);
    c.undo();
    row("behind undo", ints(c.soonest(0), c.soonest(10), c.soonest(12)), 2, 0, 2);
    c.weeks(2);
    row("two laid", places(c, 3), 2, 0, 1);
    c.rank(1, 0);
    row("behind rank", places(c, 3), 2, 1, 0);
    text(c, 1, "river 21;", 1);
    due("behind a way", c.soonest(0), 3);
    text(c, 0, blocks(2), 2);
    due("behind a dome", c.soonest(0), 2);
    text(c, 3, "wait 2;", 1);
    due("behind a plan's text", c.soonest(0), 2);
    c.plan();
    row("behind a plan: one is left", ints(c.soonest(0), c.soonest(10), c.soonest(11)), 2, 1, 0);
    c.plan();
    due("all laid", c.soonest(0), NONE);
  }

  @Says("none closes by then")
  static void promise18NoneClosesByThen() {
    for (int weeks = 299; weeks <= 301; weeks++) {
      DomeCalendar c = slow(weeks);
      due(weeks + " weeks", c.soonest(0), weeks > 300 ? NONE : weeks - 1);
      due(weeks + " weeks", c.soonest(10), weeks > 300 ? NONE : 0);
    }
    DomeCalendar c = dome(blocks(3));
    c.vein(0, false);
    row("shut", ints(c.soonest(0), c.soonest(10)), NONE, NONE);
  }

  // ---- promise 19: slack

  @Says("SLACK of a BLOCK in the ROCK: the most WEEKS from now (0 .. 60) in which it is not CUT, so that it CLOSES no later.")
  static void promise19SixtyAtMost() {
    for (int weeks : ints(1, 2, 3, 59, 60, 61, 62, 63, 99)) {
      DomeCalendar c = slowAndFast(weeks);
      due("closes", c.closes(), weeks - 1);
      due("the slow one of " + weeks, c.slack(0), 0);
      due("the fast one of " + weeks, c.slack(1), Math.min(60, weeks - 1));
    }
    DomeCalendar c = slowAndFast(61);
    settings(c, CUTTERS, 0);
    c.weeks(7);
    settings(c, CUTTERS, 2);
    row("from now", ints(c.closes(), c.slack(0), c.slack(1)), 67, 0, 60);
  }

  @Says("SLACK; NONE if one can't be (not in the ROCK), or it does not close.")
  static void promise19NotInTheRock() {
    DomeCalendar c = make(blocks(4), "river 20;");
    c.weeks(1);
    row("one on the way", where(c), 2, 0, 0, 0);
    // One is cut a WEEK, in 1, 2 and 3: each can be the last of them.
    row("on the way, in the rock", ints(c.slack(0), c.slack(1), c.slack(3)), NONE, 2, 2);
    for (int block : ints(-1, 4, 5, 14, MIN, MAX)) {
      due("slack(" + block + ")", c.slack(block), NONE);
    }
    settings(c, MASONS, 0);
    due("it does not close", c.slack(3), NONE);
    c.weeks(1);
    settings(c, MASONS, 1);
    row("at the dome", ints(c.of(0, 4), c.slack(0)), 3, NONE);
    c.weeks(1);
    // Cut in WEEK 3 or 4 it is laid in WEEK 5, behind two others.
    row("laid", ints(c.of(0, 4), c.slack(0), c.slack(3)), 4, NONE, 1);
    c.vein(0, false);
    due("it does not close", c.slack(3), NONE);
    due("no blocks", new DomeCalendar().slack(0), NONE);
    for (int weeks = 299; weeks <= 301; weeks++) {
      due(weeks + " weeks", slow(weeks).slack(0), weeks > 300 ? NONE : 0);
    }
  }

  @Says("the most WEEKS from now (0 .. 60) in which it is not CUT")
  static void promise19TheMostOfAll() {
    // Not laid in WEEKS 3 .. 51: cut in WEEK 2 it is laid in 2, cut in 3 .. 52 it is laid in 52.
    DomeCalendar c = dome("block 1 of 0 west;block 1 of 1 west;");
    settings(c, FROST, 3, CUTTERS, 2, MASONS, 2);
    row("both at once", ints(c.closes(), c.slack(0)), 0, 0);
    c.weeks(1);
    DomeCalendar d = dome("block 1 of 0 west;block 1 of 1 west;");
    settings(d, FROST, 3, CUTTERS, 0, MASONS, 2);
    d.weeks(3);
    settings(d, CUTTERS, 1);
    row("in WEEK 3 all wait for WEEK 52", ints(d.closes(), d.slack(0), d.slack(1)), 52, 49, 49);
  }

  // ---- promise 20: spare

  @Says("SPARE: the BLOCKS that are CUT, on the way or at THE DOME, each of which alone could be in the ROCK instead, so that it CLOSES no later.")
  static void promise20NoLater() {
    // The slow one is on its way from WEEK 0 on; the fast one, cut anew in WEEK 5, is laid in WEEK 5.
    for (int weeks = 4; weeks <= 8; weeks++) {
      DomeCalendar c = slowAndFast(weeks);
      settings(c, MASONS, 0);
      c.weeks(5);
      settings(c, MASONS, 2);
      row("where", where(c), weeks > 5 ? 2 : 3, 3);
      int closes = Math.max(5, weeks - 1);
      due("closes", c.closes(), closes);
      due("spare of " + weeks, c.spare(), 2);
      c.vein(1, false);
      due("its VEIN is shut", c.spare(), 0);
      c.vein(1, true);
      settings(c, CUTTERS, 0);
      due("no cutters", c.spare(), 0);
    }
    DomeCalendar c = make(blocks(2), "river 10;river 10;");
    settings(c, CUTTERS, 2, MASONS, 2);
    c.weeks(1);
    row("both on the second: closes, spare", ints(c.closes(), c.spare()), 1, 0);
    text(c, 1, "river 10;", 1);
    settings(c, MASONS, 0);
    c.weeks(1);
    settings(c, MASONS, 2);
    row("both at the dome, one WEEK from the rock: closes, spare", ints(c.closes(), c.spare()), 1, 3);
  }

  @Says("the BLOCKS that are CUT, on the way or at THE DOME")
  static void promise20WhoIsAsked() {
    DomeCalendar c = make("block 1 of 0 west;block 1 of 0 west;block 1 of 0 west;block 1 of 1 west;", "river 10;river 10;");
    settings(c, FROST, 2, CUTTERS, 1);
    c.weeks(3);
    row("laid, at the dome, on the way, in the rock", where(c), 4, 3, 2, 0);
    // Three are left for WEEKS 52, 53 and 104.
    due("closes", c.closes(), 104);
    due("at the dome and on the way", c.spare(), 6);
  }

  @Says("SPARE, as a set; NONE if it does not close.")
  static void promise20DoesNotClose() {
    due("no blocks", new DomeCalendar().spare(), NONE);
    DomeCalendar c = dome(blocks(2));
    due("all in the rock", c.spare(), 0);
    settings(c, MASONS, 0);
    due("it does not close", c.spare(), NONE);
    settings(c, MASONS, 2, CUTTERS, 2);
    c.weeks(1);
    due("all laid", c.spare(), 0);
    for (int weeks = 300; weeks <= 302; weeks++) {
      DomeCalendar s = slow(weeks);
      s.weeks(1);
      due(weeks + " weeks, one is gone", s.spare(), weeks > 301 ? NONE : 0);
    }
    // The last of fourteen is the highest of the set.
    DomeCalendar d = make("block1of0west;".repeat(14), "river 10;");
    settings(d, CUTTERS, 9, MASONS, 0);
    d.weeks(2);
    settings(d, MASONS, 9);
    // Nine and five: of those of the second WEEK each can come anew, of the first nine, too.
    due("closes", d.closes(), 3);
    due("all fourteen", d.spare(), (1 << 14) - 1);
  }

  // ---- promise 21: fewest

  @Says("FEWEST OXEN: the least number of OXEN now with which it CLOSES by a told WEEK.")
  static void promise21ByAToldWeek() {
    DomeCalendar c = make("block 4 of 0 west;block 6 of 0 west;", "road 10;hill 10;");
    settings(c, CUTTERS, 2, MASONS, 2, GRASS, 9999);
    // Both at once need 10 on the road and 20 on the hill; one behind the other the heavier one needs 12 there.
    row("by WEEKS 0 .. 4", ints(c.fewest(0), c.fewest(1), c.fewest(2), c.fewest(3), c.fewest(4)), NONE, 20, 12, 12, 12);
    row("calves in WEEK 26", ints(c.fewest(25), c.fewest(26)), 12, 10);
    int[] before = all(c);
    c.fewest(60);
    unchanged("fewest", c, before, 0);
  }

  @Says("FEWEST OXEN; NONE if 99 are not enough, or the WEEK is below today's.")
  static void promise21BelowTodays() {
    DomeCalendar c = make("block 20 of 0 west;", "river 10;");
    row("in WEEK 0", ints(c.fewest(-1), c.fewest(0), c.fewest(1), c.fewest(MIN), c.fewest(MAX)), NONE, 0, 0, NONE, 0);
    settings(c, CUTTERS, 0);
    c.weeks(5);
    settings(c, CUTTERS, 1);
    row("in WEEK 5", ints(c.fewest(4), c.fewest(5), c.fewest(6)), NONE, 0, 0);
    c.weeks(1);
    row("all laid", ints(c.fewest(5), c.fewest(6), c.fewest(7), c.fewest(0)), NONE, 0, 0, NONE);
    due("no blocks", new DomeCalendar().fewest(0), NONE);
  }

  @Says("NONE if 99 are not enough")
  static void promise21NinetyNine() {
    // All at once over the road, so much as their sizes are.
    int[][] last = {{18, 98}, {19, 99}, {20, NONE}};
    for (int[] d : last) {
      DomeCalendar c = make("block 20 of 0 west;".repeat(4) + "block " + d[0] + " of 0 west;", "road 10;");
      settings(c, CUTTERS, 5, MASONS, 5, GRASS, 9999);
      due("80 and " + d[0], c.fewest(0), d[1]);
      // The last one goes with the first two.
      due("80 and " + d[0] + ", a WEEK more", c.fewest(1), 40 + d[0]);
      settings(c, OXEN, 0);
      due("whatever there are now", c.fewest(0), d[1]);
    }
    for (int weeks = 299; weeks <= 301; weeks++) {
      due(weeks + " weeks", slow(weeks).fewest(9999), weeks > 300 ? NONE : 0);
    }
    DomeCalendar c = slow(300);
    row("by its WEEK", ints(c.fewest(298), c.fewest(299), c.fewest(300)), NONE, 0, 0);
  }

  // ---- promise 28: without

  @Says({"WITHOUT a VEIN: when it would CLOSE, if that was not open.", "WITHOUT; NONE if not by then, or there is none such."})
  static void promise28NoneSuch() {
    DomeCalendar c = dome("block 1 of 0 west;block 1 of 3 west;");
    for (int v : ints(-1, 4, 5, MIN, MAX)) {
      due("without(" + v + ")", c.without(v), NONE);
    }
    row("each VEIN", ints(c.without(0), c.without(1), c.without(2), c.without(3)), NONE, 1, 1, NONE);
    c.weeks(1);
    row("the first is laid", ints(c.without(0), c.without(3)), 1, NONE);
    c.vein(0, false);
    row("shut already", ints(c.without(0), c.without(1)), 1, 1);
    c.vein(3, false);
    row("another one is shut", ints(c.without(0), c.without(1)), NONE, NONE);
    row("as they were", looks(c, 40, 41, 42, 43), 0, 1, 1, 0);
    c.vein(3, true);
    c.weeks(1);
    row("all laid", ints(c.without(0), c.without(3), c.without(4)), 1, 1, NONE);
    for (int weeks = 299; weeks <= 301; weeks++) {
      due(weeks + " weeks", slow(weeks).without(1), weeks > 300 ? NONE : weeks - 1);
    }
    due("no blocks", new DomeCalendar().without(0), NONE);
  }

  // ---- promise 29: help

  @Says("HELP what 0 which (as set()), 1 the WEEK. NONE if none helps, or another what.")
  static void promise29What() {
    DomeCalendar c = dome(blocks(4));
    settings(c, CUTTERS, 9);
    row("MASONS", ints(c.closes(), c.help(0), c.help(1)), 3, 4, 1);
    for (int what : ints(-1, 2, 3, MIN, MAX)) {
      due("help(" + what + ")", c.help(what), NONE);
    }
    settings(c, MASONS, 4);
    row("none helps", ints(c.closes(), c.help(0), c.help(1)), 0, NONE, NONE);
    c.weeks(1);
    row("all laid", ints(c.closes(), c.help(0), c.help(1)), 0, NONE, NONE);
    row("no blocks", ints(new DomeCalendar().help(0), new DomeCalendar().help(1)), NONE, NONE);
    DomeCalendar never = dome(blocks(2));
    settings(never, CUTTERS, 0, MASONS, 0);
    row("two are lacking", ints(never.help(0), never.help(1)), NONE, NONE);
  }

  @Says("HELP: which one of OXEN, GROW, CUTTERS, MASONS, GREASE (as set() tells them), one more (not above its bounds),")
  static void promise29NotAboveItsBounds() {
    // By the law one more of each is sooner, up to its bounds.
    int[] which = {OXEN, GREASE};
    String[] name = {"oxen", "grease"};
    for (int i = 0; i < 2; i++) {
      int most = i == 0 ? 99 : 9;
      DomeCalendar c = make(blocks(1), "river 90;");
      text(c, 2, "haul 90 when " + name[i] + "=" + most + ";haul 90 when " + name[i] + ">" + most + ";haul 45;", 3);
      settings(c, GRASS, 9999, which[i], most - 2);
      row(name[i] + ": two below its bound", ints(c.closes(), c.help(0), c.help(1)), 1, NONE, NONE);
      settings(c, which[i], most - 1);
      row(name[i] + ": one below its bound", ints(c.closes(), c.help(0), c.help(1)), 1, which[i], 0);
      settings(c, which[i], most);
      row(name[i] + ": at its bound", ints(c.closes(), c.help(0), c.help(1)), 0, NONE, NONE);
      text(c, 2, "haul 90 when " + name[i] + ">" + most + ";haul 45;", 2);
      row(name[i] + ": never above it", ints(c.closes(), c.help(0), c.help(1)), 1, NONE, NONE);
    }
    int[][] due = {{CUTTERS, MASONS}, {MASONS, CUTTERS}};
    for (int[] d : due) {
      DomeCalendar c = dome("block1of0west;".repeat(10));
      settings(c, d[1], 9, d[0], 8);
      row(d[0] + ": one below its bound", ints(c.closes(), c.help(0), c.help(1)), 1, NONE, NONE);
      settings(c, d[0], 9);
      row(d[0] + ": at its bound", ints(c.closes(), c.help(0), c.help(1)), 1, NONE, NONE);
      settings(c, d[0], 4);
      row(d[0] + ": ten by fours", ints(c.closes(), c.help(0), c.help(1)), 2, d[0], 1);
    }
    // GROW 98: 99 oxen lose one in the first WEEK, with GROW 99 none.
    DomeCalendar g = make("block 20 of 0 west;".repeat(4) + "block 19 of 0 west;", "road 10;");
    settings(g, OXEN, 99, GRASS, 0, GROW, 98, CUTTERS, 5, MASONS, 5);
    row("GROW: one below its bound", ints(g.closes(), g.help(0), g.help(1)), 1, GROW, 0);
    settings(g, GROW, 99);
    row("GROW: at its bound", ints(g.closes(), g.help(0), g.help(1)), 0, NONE, NONE);
    settings(g, GRASS, 1, GROW, 97);
    row("GROW and GRASS", ints(g.closes(), g.help(0), g.help(1)), 1, GROW, 0);
  }

  @Says("by which it CLOSES soonest, sooner than without (or at all); of several the first.")
  static void promise29SoonerOrAtAll() {
    DomeCalendar c = make(blocks(2), "river 20;");
    text(c, 2, "haul 5+grease*5;", 1);
    settings(c, CUTTERS, 2);
    row("GREASE in WEEK 2, MASONS in WEEK 3", ints(c.closes(), c.help(0), c.help(1)), 4, GREASE, 2);
    text(c, 2, "haul 5;", 1);
    row("MASONS", ints(c.closes(), c.help(0), c.help(1)), 4, MASONS, 3);
    text(c, 2, "haul 5+oxen-10+grease;", 1);
    settings(c, GRASS, 9999, MASONS, 2);
    // OXEN 11 or GREASE 1 haul 6 a WEEK, which is four WEEKS as by fives.
    row("no sooner", ints(c.closes(), c.help(0), c.help(1)), 3, NONE, NONE);
    text(c, 2, "haul 5+oxen*5-50+grease*5;", 1);
    row("of several the first: OXEN", ints(c.closes(), c.help(0), c.help(1)), 3, OXEN, 1);
    settings(c, OXEN, 99);
    text(c, 2, "haul 5+grease*5;", 1);
    row("GREASE alone", ints(c.closes(), c.help(0), c.help(1)), 3, GREASE, 1);
    DomeCalendar d = dome(blocks(2));
    settings(d, CUTTERS, 0);
    row("CUTTERS, at all", ints(d.closes(), d.help(0), d.help(1)), NONE, CUTTERS, 1);
    for (int weeks = 299; weeks <= 302; weeks++) {
      DomeCalendar s = slow(weeks);
      text(s, 2, "haul 2 when grease=1 and week=0;haul 1;", 2);
      int closes = weeks > 300 ? NONE : weeks - 1;
      row(weeks + " weeks, one less by GREASE", ints(s.closes(), s.help(0), s.help(1)), closes,
          weeks > 301 ? NONE : GREASE, weeks > 301 ? NONE : weeks - 2);
    }
  }
}
