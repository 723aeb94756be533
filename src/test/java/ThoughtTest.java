/** Promises 12 and 17 to 29: what is told IN THOUGHT, of which nothing stays. */
public final class ThoughtTest {
  private static final int NONE = DomeCalendar.NONE;

  public static void main(String[] args) {
    planned();
    closes();
    closesInThought();
    soonest();
    soonestOfSome();
    soonestOfEachOrder();
    soonestChanges();
    slack();
    spare();
    fewest();
    can();
    ways();
    chain();
    took();
    blame();
    herd();
    without();
    help();
    nothingStays();
    Check.finish();
  }

  private static void planned() {
    Check.promise(12);
    DomeCalendar c = Check.make(Check.blocks(4), "");
    Check.row("an empty plan", new int[] {c.planned(0), c.planned(1)}, 0, 3);
    Check.tell(c, 3, "wait 2;cutters 2;masons 2;");
    Check.row("two in it, two behind it", new int[] {c.planned(0), c.planned(1)}, 2, 2);
    Check.tell(c, 3, "wait 60;");
    Check.row("it closed in it", new int[] {c.planned(0), c.planned(1)}, 4, 3);
    Check.tell(c, 3, "wait 2;shut 0;");
    Check.row("it does not close", new int[] {c.planned(0), c.planned(1)}, 2, NONE);
    Check.tell(c, 3, "shut 0;again 9(again 9(wait 60;))open 0;");
    Check.row("far off", new int[] {c.planned(0), c.planned(1)}, 0, 4863);
    Check.due("planned(2)", c.planned(2), NONE);
    Check.due("planned(-1)", c.planned(-1), NONE);
    Check.row("nothing stays", Check.looks(c, 2, 4, 40), 0, 0, 1);
    c.weeks(10);
    Check.tell(c, 3, "wait 5;");
    Check.row("all laid ahead of it", new int[] {c.planned(0), c.planned(1)}, 4, 9);
    DomeCalendar d = new DomeCalendar();
    Check.tell(d, 3, "wait 5;");
    Check.row("no blocks", new int[] {d.planned(0), d.planned(1)}, 0, NONE);
    DomeCalendar e = Check.make(Check.blocks(2), "");
    Check.tell(e, 3, "rank 1 to 0;wait 1;");
    e.set(6, 1000);
    e.set(8, 1000);
    Check.due("without draws", e.planned(0), 1);
    Check.order(e, 0, 1);
    Check.due("no draws", e.look(8), 0);
  }

  private static void closes() {
    Check.promise(17);
    Check.due("no blocks", new DomeCalendar().closes(), NONE);
    DomeCalendar c = Check.make(Check.blocks(3), "");
    Check.due("one a week", c.closes(), 2);
    c.weeks(2);
    Check.due("from now on the same", c.closes(), 2);
    c.weeks(1);
    Check.due("all laid: the week ahead", c.closes(), 2);
    c.weeks(7);
    Check.due("all laid: the week ahead", c.closes(), 9);
    c.set(4, 0);
    Check.due("all laid, no masons", c.closes(), 9);
    // One a week: 99 + 99 + 99 + 3 weeks are the 300 at most.
    DomeCalendar d = Check.make(Check.blocks(1), "road 99;road 99;road 99;road 3;");
    Check.tell(d, 2, "haul 1;");
    Check.due("300 weeks", d.closes(), 299);
    d.set(3, 0);
    d.weeks(7);
    d.set(3, 1);
    Check.due("300 weeks from now", d.closes(), 306);
    DomeCalendar e = Check.make(Check.blocks(1), "road 99;road 99;road 99;road 4;");
    Check.tell(e, 2, "haul 1;");
    Check.due("301 weeks", e.closes(), NONE);
    e.weeks(1);
    Check.due("now 300", e.closes(), 300);
    DomeCalendar f = Check.make(Check.blocks(2), "");
    f.set(3, 0);
    Check.due("no cutters", f.closes(), NONE);
    f.set(3, 1);
    f.set(4, 0);
    Check.due("no masons", f.closes(), NONE);
    f.set(4, 1);
    f.vein(0, false);
    Check.due("shut", f.closes(), NONE);
    f.vein(0, true);
    f.set(10, 1);
    Check.due("out of balance", f.closes(), NONE);
    f.set(10, 2);
    Check.due("in balance", f.closes(), 1);
  }

  private static void closesInThought() {
    Check.promise(17);
    DomeCalendar c = Check.make(Check.blocks(1), "river 30;");
    c.set(6, 1000);
    c.set(7, 1000);
    c.set(8, 1000);
    Check.tell(c, 2, "haul 1 when wet=1;haul 10;");
    Check.due("dry, no floods", c.closes(), 2);
    c.set(9, 1);
    Check.due("frost until 52", c.closes(), 52);
    // Mud dries one by one in thought: 9 is 8 in the first of these weeks.
    c.set(9, 52);
    c.set(7, 0);
    Check.tell(c, 2, "haul 0;");
    c.weeks(10);
    Check.tell(c, 2, "haul 9-mud;");
    Check.due("1 + 2 + .. + 7 are 28, and 8 more", c.closes(), 17);
    // The second can be laid in its third week alone, when the first has fallen and is laid anew.
    DomeCalendar d = Check.make("block 1 of 0 west;block 1 of 0 west after 0;", "road 20;");
    d.set(11, 1);
    d.set(3, 1);
    Check.due("it falls in thought", d.closes(), 2);
    d.set(3, 2);
    d.set(4, 2);
    Check.due("both at once", d.closes(), 1);
    DomeCalendar e = Check.make("block 1 of 0 west;block 1 of 1 west;", "");
    e.vein(1, false);
    e.set(11, 3);
    e.weeks(3);
    e.vein(1, true);
    Check.due("closed as it would fall", e.closes(), 3);
    // Calves of week 26 are the team that lacked.
    DomeCalendar f = Check.make("block 12 of 0 west;", "road 10;");
    Check.due("calves", f.closes(), 26);
    f.set(2, 0);
    f.set(1, 30);
    Check.due("hunger", f.closes(), NONE);
    // Balance: the second of the west must wait for the east, which comes later.
    DomeCalendar g = Check.make("block 4 of 0 west;block 4 of 0 west;block 4 of 0 east;", "");
    g.set(10, 4);
    Check.due("west, east, west", g.closes(), 3);
    DomeCalendar h = Check.make("block 4 of 0 west;block 4 of 0 west;block 4 of 0 east after 1;", "");
    h.set(10, 4);
    Check.due("the first of the west alone", h.closes(), NONE);
    h.rank(1, 0);
    Check.due("the second first", h.closes(), 3);
    DomeCalendar i = Check.make("block 9 of 0 west;block 2 of 0 west;", "hill 10;road 20;");
    i.set(0, 18);
    i.set(3, 2);
    i.weeks(1);
    i.set(0, 9);
    Check.row("one is behind the hill, one on it", new int[] {i.of(0, 5), i.of(1, 5)}, 1, 0);
    Check.due("9 are enough behind the hill", i.closes(), 5);
    i.set(4, 0);
    i.weeks(2);
    i.set(0, 4);
    i.set(4, 1);
    Check.row("one at the dome", Check.where(i), 3, 2);
    Check.due("none is needed at the dome", i.closes(), 5);
  }

  private static void soonest() {
    Check.promise(18);
    DomeCalendar c = Check.make("block 1 of 0 west;block 1 of 0 west after 0;block 1 of 0 west after 0 and 1;", "");
    c.rank(2, 0);
    c.rank(1, 1);
    Check.order(c, 2, 1, 0);
    Check.due("as it stands", c.closes(), 4);
    Check.row("soonest", new int[] {c.soonest(0), c.soonest(10), c.soonest(11), c.soonest(12)}, 2, 0, 1, 2);
    for (int what : new int[] {-1, 1, 9, 13, 24, Integer.MAX_VALUE, Integer.MIN_VALUE}) {
      Check.due("soonest(" + what + ")", c.soonest(what), NONE);
    }
    Check.order(c, 2, 1, 0);
    // The heavy one needs all oxen, first or last: of orders that close alike the first by number.
    DomeCalendar d = Check.make("block 1 of 0 west;block 9 of 1 east;block 1 of 0 west after 1;", "road 20;");
    d.set(3, 3);
    d.set(4, 3);
    d.set(0, 9);
    Check.due("by number", d.closes(), 3);
    Check.row("soonest", new int[] {d.soonest(0), d.soonest(10), d.soonest(11), d.soonest(12)}, 3, 0, 1, 2);
    DomeCalendar e = Check.make("block 1 of 1 west;block 1 of 0 west;block 1 of 0 west after 1;", "");
    e.vein(1, false);
    Check.due("none closes", e.soonest(0), NONE);
    Check.due("none closes", e.soonest(10), NONE);
    DomeCalendar f = new DomeCalendar();
    Check.due("no blocks", f.soonest(0), NONE);
  }

  private static void soonestOfSome() {
    Check.promise(18);
    DomeCalendar c = Check.make(Check.blocks(8), "");
    Check.due("eight are not laid", c.soonest(0), NONE);
    c.rank(7, 0);
    c.weeks(1);
    Check.due("seven are not laid", c.soonest(0), NONE);
    c.rank(5, 0);
    c.weeks(1);
    Check.due("six are not laid", c.soonest(0), 7);
    Check.row("six, then those laid as they stand",
        new int[] {c.soonest(10), c.soonest(11), c.soonest(12), c.soonest(13), c.soonest(14), c.soonest(15),
          c.soonest(16), c.soonest(17), c.soonest(18)}, 0, 1, 2, 3, 4, 6, 5, 7, NONE);
    c.weeks(6);
    Check.due("all are laid", c.look(4), 8);
    Check.due("none is left", c.soonest(0), NONE);
    Check.due("none is left", c.soonest(10), NONE);
  }

  /** One is cut a week, and only if the slow ones are cut first all are there in the week that all can be. */
  private static void soonestOfEachOrder() {
    Check.promise(18);
    for (int number = 0; number < 720; number += 7) {
      int[] row = permutation(number);
      int[] size = new int[6];
      for (int i = 0; i < 6; i++) {
        size[row[i]] = 6 - i;
      }
      StringBuilder dome = new StringBuilder();
      for (int b = 0; b < 6; b++) {
        dome.append("block ").append(size[b]).append(" of 0 west;");
      }
      DomeCalendar c = Check.make(dome.toString(), "road 60;");
      c.set(0, 99);
      c.set(1, 9999);
      c.set(4, 9);
      Check.tell(c, 2, "haul 10 when size=6;haul 12 when size=5;haul 15 when size=4;haul 20 when size=3;"
          + "haul 30 when size=2;haul 60;");
      Check.due("the week of order " + number, c.soonest(0), 5);
      for (int i = 0; i < 6; i++) {
        Check.due("order " + number + " [" + i + "]", c.soonest(10 + i), row[i]);
      }
    }
  }

  private static int[] permutation(int number) {
    int[] row = new int[6];
    boolean[] used = new boolean[6];
    int[] weight = {120, 24, 6, 2, 1, 1};
    int rest = number;
    for (int i = 0; i < 6; i++) {
      int skip = rest / weight[i];
      rest %= weight[i];
      int b = 0;
      while (used[b] || skip-- > 0) {
        b++;
        while (used[b]) {
          b++;
        }
      }
      used[b] = true;
      row[i] = b;
    }
    return row;
  }

  private static void soonestChanges() {
    Check.promise(18);
    DomeCalendar c = Check.make(Check.blocks(3), "road 20;");
    Check.due("at first", c.soonest(0), 3);
    c.set(3, 3);
    c.set(4, 3);
    Check.due("behind set", c.soonest(0), 1);
    Check.tell(c, 2, "haul 20;");
    Check.due("behind a law", c.soonest(0), 0);
    c.vein(0, false);
    Check.due("behind vein", c.soonest(0), NONE);
    c.vein(0, true);
    Check.due("behind vein", c.soonest(0), 0);
    c.image(true);
    Check.tell(c, 2, "haul 2;");
    Check.due("behind a law", c.soonest(0), 9);
    c.weeks(1);
    Check.tell(c, 2, "haul 1;");
    Check.due("behind weeks", c.soonest(0), 18);
    c.undo();
    Check.due("behind undo", c.soonest(0), 19);
    c.image(false);
    Check.due("behind image", c.soonest(0), 0);
    Check.tell(c, 1, "road 21;");
    Check.due("behind a way", c.soonest(0), 1);
    Check.tell(c, 0, Check.blocks(7));
    Check.due("behind a dome", c.soonest(0), NONE);
    Check.tell(c, 0, Check.blocks(2));
    Check.tell(c, 3, "wait 1;cutters 0;");
    Check.due("behind a dome", c.soonest(0), 1);
    c.plan();
    c.plan();
    Check.due("behind a plan: all are laid", c.soonest(0), NONE);
    DomeCalendar d = Check.make(Check.blocks(3), "");
    d.weeks(2);
    Check.row("the laid as they stand", new int[] {d.soonest(10), d.soonest(11), d.soonest(12)}, 2, 0, 1);
    d.rank(1, 0);
    Check.row("behind rank", new int[] {d.soonest(10), d.soonest(11), d.soonest(12)}, 2, 1, 0);
  }

  private static void slack() {
    Check.promise(19);
    DomeCalendar c = Check.make(Check.blocks(2), "");
    c.set(3, 2);
    c.set(9, 1);
    // One in week 0, one in week 52, so either can be cut as late as in week 52.
    Check.due("closes", c.closes(), 52);
    Check.due("slack(0)", c.slack(0), 52);
    Check.due("slack(1)", c.slack(1), 52);
    Check.due("slack(2)", c.slack(2), NONE);
    Check.due("slack(-1)", c.slack(-1), NONE);
    c.weeks(1);
    Check.due("not in the rock: laid", c.slack(0), NONE);
    Check.due("not in the rock: at the dome", c.slack(1), NONE);
    DomeCalendar d = Check.make(Check.blocks(3), "");
    d.set(3, 3);
    d.set(9, 1);
    Check.due("closes", d.closes(), 104);
    Check.due("60 at most", d.slack(2), 60);
    DomeCalendar e = Check.make(Check.blocks(2), "");
    Check.row("one a week", new int[] {e.slack(0), e.slack(1)}, 1, 1);
    e.set(4, 0);
    Check.due("it does not close", e.slack(0), NONE);
    e.set(4, 1);
    e.set(3, 0);
    e.weeks(5);
    e.set(3, 1);
    Check.row("from now on", new int[] {e.closes(), e.slack(0), e.slack(1)}, 6, 1, 1);
    DomeCalendar f = Check.make(Check.blocks(1), "road 5;");
    Check.due("none to spare", f.slack(0), 0);
  }

  private static void spare() {
    Check.promise(20);
    DomeCalendar c = Check.make(Check.blocks(3), "");
    c.set(3, 2);
    c.set(9, 1);
    c.weeks(1);
    // Laid, at the dome, in the rock: two wait for weeks 52 and 104.
    Check.row("where", Check.where(c), 4, 3, 0);
    Check.due("the one at the dome", c.spare(), 2);
    c.vein(0, false);
    Check.due("the third is shut off: it does not close", c.spare(), NONE);
    Check.due("without blocks", new DomeCalendar().spare(), NONE);
    DomeCalendar d = Check.make("block 1 of 0 west;block 1 of 1 west;", "road 30;");
    d.set(3, 2);
    d.set(4, 2);
    d.weeks(1);
    Check.due("either would be late", d.spare(), 0);
    Check.tell(d, 2, "haul 30;");
    Check.due("either comes as soon", d.spare(), 3);
    d.vein(1, false);
    Check.due("it would not come back", d.spare(), 1);
    d.set(3, 0);
    Check.due("no one cuts it", d.spare(), 0);
    d.weeks(2);
    Check.due("all laid", d.spare(), 0);
  }

  private static void fewest() {
    Check.promise(21);
    DomeCalendar c = Check.make("block 4 of 0 west;block 6 of 0 west;", "road 10;hill 10;");
    c.set(3, 2);
    c.set(4, 2);
    // Both over the road in week 0 need 10, both over the hill in week 1 need 20.
    Check.due("by week 1", c.fewest(1), 20);
    Check.due("by week 0", c.fewest(0), NONE);
    // One behind the other the heavier one needs 12 on the hill.
    Check.due("by week 2", c.fewest(2), 12);
    Check.due("by week 25", c.fewest(25), 12);
    // 10 are 12 with the calves of week 26; five of them 6, 7, 8, 9, 10, and 12 in week 156.
    Check.due("by week 26", c.fewest(26), 10);
    Check.due("by week 155", c.fewest(155), 6);
    Check.due("by week 156", c.fewest(156), 5);
    Check.due("far off", c.fewest(Integer.MAX_VALUE), 5);
    Check.due("below today's", c.fewest(-1), NONE);
    c.weeks(1);
    Check.due("below today's", c.fewest(0), NONE);
    Check.due("as told, so OXEN stay", c.look(20), 10);
    DomeCalendar d = Check.make("block 20 of 0 west;", "river 10;");
    Check.due("none at all", d.fewest(0), 0);
    d.weeks(1);
    Check.due("all laid", d.fewest(1), 0);
    Check.due("all laid, below today's", d.fewest(0), NONE);
    DomeCalendar e = Check.make("block 20 of 0 west;", "hill 10;");
    e.set(1, 0);
    e.set(2, 0);
    // Half of them die ahead of the first week's hauling.
    Check.due("hunger", e.fewest(0), 80);
    e.set(3, 0);
    Check.due("never", e.fewest(200), NONE);
    Check.due("no blocks", new DomeCalendar().fewest(5), NONE);
    // Of 99 with one to eat 49 die and 50 are left; of 98 it is 49.
    DomeCalendar f = Check.make("block 20 of 0 west;block 20 of 0 west;block 10 of 0 west;", "road 10;");
    f.set(1, 1);
    f.set(2, 0);
    f.set(3, 3);
    f.set(4, 3);
    Check.due("just 99", f.fewest(0), 99);
    Check.tell(f, 0, "block 20 of 0 west;block 20 of 0 west;block 11 of 0 west;");
    Check.due("99 are not enough", f.fewest(0), NONE);
  }

  private static void can() {
    Check.promise(22);
    DomeCalendar c = Check.make("block 2 of 0 west;block 2 of 0 west after 0;block 3 of 0 east;block 1 of 0 east;", "");
    Check.due("in the rock", c.can(), 0);
    c.set(3, 3);
    c.set(4, 0);
    c.weeks(1);
    Check.due("at the dome, masons not asked", c.can(), 5);
    c.set(10, 2);
    Check.due("balance", c.can(), 1);
    c.set(9, 1);
    Check.due("frost not asked", c.can(), 1);
    c.set(9, 52);
    c.set(4, 1);
    c.weeks(1);
    Check.row("where", Check.where(c), 4, 3, 3, 3);
    Check.due("behind its neighbour, the other half", c.can(), 12);
    Check.due("no blocks", new DomeCalendar().can(), 0);
  }

  private static void ways() {
    Check.promise(23);
    DomeCalendar none = new DomeCalendar();
    Check.due("no blocks", none.ways(0) + none.ways(1) + none.ways(2), 3);
    DomeCalendar c = Check.make(Check.blocks(14), "");
    Check.due("14!", c.ways(0), 87178291200L);
    Check.due("all west", c.ways(1), 87178291200L);
    Check.due("balance 999", c.ways(2), 87178291200L);
    Check.due("ways(3)", c.ways(3), NONE);
    Check.due("ways(-1)", c.ways(-1), NONE);
    c.set(10, 13);
    Check.due("too heavy at the end", c.ways(2), 0);
    c.weeks(3);
    Check.due("from the first one on", c.ways(0), 87178291200L);
    Check.tell(c, 0, "block 4 of 0 west;block 4 of 0 west;block 4 of 0 east;");
    Check.row("free, west first", new int[] {(int) c.ways(0), (int) c.ways(1)}, 6, 2);
    c.set(10, 4);
    Check.due("wew, eww", c.ways(2), 4);
    c.set(10, 3);
    Check.due("never", c.ways(2), 0);
    c.set(10, 8);
    Check.due("all", c.ways(2), 6);
    Check.tell(c, 0, "block 1 of 0 west;block 1 of 0 east after 0;block 1 of 0 east after 0;block 1 of 0 west after 1 and 2;");
    Check.row("a diamond", new int[] {(int) c.ways(0), (int) c.ways(1)}, 2, 0);
    c.set(10, 1);
    Check.due("1, 0, -1, 0", c.ways(2), 2);
    c.set(10, 0);
    Check.due("never even", c.ways(2), 0);
  }

  private static void chain() {
    Check.promise(24);
    DomeCalendar c = Check.make("block 1 of 0 west;block 1 of 0 west;block 1 of 0 west after 0;"
        + "block 1 of 0 west after 1 and 2;block 1 of 0 west after 1;block 1 of 0 west after 3 and 4 and 0;", "");
    int[] got = new int[6];
    for (int b = 0; b < 6; b++) {
      got[b] = c.chain(b);
    }
    Check.row("chains", got, 1, 1, 2, 3, 2, 4);
    Check.due("chain(6)", c.chain(6), NONE);
    Check.due("chain(-1)", c.chain(-1), NONE);
    StringBuilder s = new StringBuilder("block 1 of 0 west;");
    for (int b = 1; b < 14; b++) {
      s.append("block 1 of 0 west after ").append(b - 1).append(';');
    }
    // Fourteen such lines are too long for the tape with their blanks.
    Check.tell(c, 0, s.toString().replace("block 1 of 0 west", "block1of0west"));
    Check.due("the longest", c.chain(13), 14);
  }

  private static void took() {
    Check.promise(25);
    DomeCalendar c = Check.make(Check.blocks(2), "road 30;bridge 1;river 25;");
    c.set(3, 2);
    c.weeks(2);
    Check.due("not over yet", c.took(0, 0), NONE);
    c.weeks(2);
    Check.row("cut in 0, over in 2", new int[] {c.took(0, 0), c.took(1, 0)}, 2, 2);
    Check.row("over in 3, the other waits", new int[] {c.took(0, 1), c.took(1, 1)}, 1, NONE);
    c.weeks(5);
    Check.row("over in 4", new int[] {c.took(0, 1), c.took(1, 1)}, 1, 2);
    Check.row("the river", new int[] {c.took(0, 2), c.took(1, 2)}, 3, 3);
    Check.due("no such stretch", c.took(0, 3), NONE);
    Check.due("no such stretch", c.took(0, -1), NONE);
    Check.due("no such block", c.took(2, 0), NONE);
    Check.due("no such block", c.took(-1, 0), NONE);
    // Split in week 1 and led once more: the latest counts, not the first.
    DomeCalendar d = Check.make(Check.blocks(1), "river 10;bridge 1;");
    d.set(8, 1000);
    d.set(9, 1);
    d.weeks(1);
    Check.due("at once", d.took(0, 0), 0);
    d.set(6, 1000);
    d.set(0, 0);
    d.weeks(1);
    Check.due("split", d.of(0, 4), 0);
    Check.due("as it was", d.took(0, 0), 0);
    d.set(6, 0);
    Check.tell(d, 2, "haul 5;");
    d.weeks(2);
    Check.due("cut in 2, over in 3", d.took(0, 0), 1);
    d.set(0, 9);
    d.weeks(1);
    Check.due("over the bridge in 4", d.took(0, 1), 1);
  }

  private static void blame() {
    Check.promise(26);
    DomeCalendar c = Check.make("block 9 of 0 west;block 9 of 0 west;", "road 10;");
    Check.row("nothing", new int[] {c.blame(0), c.blame(1), c.blame(2), c.blame(-1)}, NONE, 0, NONE, NONE);
    c.set(3, 2);
    c.set(0, 0);
    c.weeks(3);
    Check.row("for oxen", new int[] {c.blame(0), c.blame(1)}, 0, 6);
    c.set(0, 18);
    c.set(4, 0);
    c.weeks(6);
    Check.row("for masons", new int[] {c.blame(0), c.blame(1)}, 3, 12);
    DomeCalendar d = Check.make("block 1 of 0 west;block 1 of 1 east after 0;", "");
    d.vein(0, false);
    d.weeks(2);
    Check.row("for others", new int[] {d.blame(0), d.blame(1)}, 4, 2);
    d.vein(0, true);
    d.set(4, 0);
    d.weeks(2);
    Check.row("more", new int[] {d.blame(0), d.blame(1)}, 4, 4);
    d.set(4, 1);
    d.weeks(1);
    d.set(4, 0);
    d.weeks(1);
    Check.row("four each: the least", new int[] {d.of(0, 13) + d.of(1, 13), d.of(1, 14), d.blame(0), d.blame(1)}, 4, 4, 3, 4);
  }

  private static void herd() {
    Check.promise(27);
    DomeCalendar c = new DomeCalendar();
    Check.row("now", new int[] {c.herd(0, 0), c.herd(0, 1), c.herd(0, 2)}, 10, 100, 0);
    Check.row("behind 25", new int[] {c.herd(25, 0), c.herd(25, 1)}, 10, 100);
    Check.row("behind 26", new int[] {c.herd(26, 0), c.herd(26, 1)}, 12, 100);
    Check.row("behind 27", new int[] {c.herd(27, 0), c.herd(27, 1)}, 12, 98);
    c.set(1, 0);
    c.set(0, 20);
    Check.row("hunger", new int[] {c.herd(1, 0), c.herd(1, 1), c.herd(2, 0), c.herd(4, 0)}, 15, 0, 12, 10);
    c.set(6, 1000);
    c.weeks(3);
    Check.row("dry in thought", new int[] {c.herd(0, 2), c.herd(1, 2), c.herd(6, 2), c.herd(100, 2)}, 6, 5, 0, 0);
    Check.due("herd(-1, 0)", c.herd(-1, 0), NONE);
    Check.due("herd(101, 0)", c.herd(101, 0), NONE);
    Check.due("herd(0, 3)", c.herd(0, 3), NONE);
    Check.due("herd(0, -1)", c.herd(0, -1), NONE);
  }

  private static void without() {
    Check.promise(28);
    DomeCalendar c = Check.make("block 1 of 0 west;block 1 of 2 west;", "");
    Check.row("without", new int[] {c.without(0), c.without(1), c.without(2), c.without(3)}, NONE, 1, NONE, 1);
    c.weeks(1);
    Check.row("the first is cut", new int[] {c.without(0), c.without(2)}, 1, NONE);
    c.vein(0, false);
    Check.due("shut already", c.without(0), 1);
    c.weeks(1);
    Check.due("all laid", c.without(2), 1);
    Check.due("without(4)", c.without(4), NONE);
    Check.due("without(-1)", c.without(-1), NONE);
    Check.due("VEIN stays open", c.look(42), 1);
    Check.due("no blocks", new DomeCalendar().without(0), NONE);
  }

  private static void help() {
    Check.promise(29);
    DomeCalendar c = Check.make("block 11 of 0 west;", "road 10;");
    c.set(2, 9);
    // Calves of week 26 would do, one ox more does at once.
    Check.row("OXEN", new int[] {c.closes(), c.help(0), c.help(1)}, 26, 0, 0);
    c.set(1, 0);
    c.set(0, 9);
    // 9 eat what grows, and a calf more starves; with GROW 10 they are 10, and 12 in week 52.
    Check.row("at all: GROW feeds calves", new int[] {c.closes(), c.help(0), c.help(1)}, NONE, 2, 52);
    DomeCalendar d = Check.make(Check.blocks(3), "");
    d.set(4, 9);
    Check.row("CUTTERS", new int[] {d.help(0), d.help(1)}, 3, 1);
    d.set(3, 9);
    Check.row("none helps", new int[] {d.help(0), d.help(1)}, NONE, NONE);
    d.set(4, 0);
    Check.row("MASONS, at all", new int[] {d.help(0), d.help(1)}, 4, 2);
    d.set(4, 1);
    Check.row("MASONS", new int[] {d.help(0), d.help(1)}, 4, 1);
    d.weeks(3);
    Check.row("all laid", new int[] {d.help(0), d.help(1)}, NONE, NONE);
    DomeCalendar e = Check.make(Check.blocks(2), "road 20;");
    Check.tell(e, 2, "haul 5+grease*5;");
    e.set(3, 2);
    // 20 by fives and one more week for the second; one mason more closes in 3, GREASE 1 in 2.
    Check.row("GREASE", new int[] {e.closes(), e.help(0), e.help(1)}, 4, 5, 2);
    e.set(5, 9);
    Check.row("not above its bounds: MASONS", new int[] {e.closes(), e.help(0), e.help(1)}, 1, 4, 0);
    Check.due("help(2)", e.help(2), NONE);
    Check.due("help(-1)", e.help(-1), NONE);
    DomeCalendar f = Check.make(Check.blocks(2), "");
    f.set(3, 0);
    f.set(4, 2);
    Check.row("of several the first", new int[] {f.help(0), f.help(1)}, 3, 1);
    Check.due("no blocks", new DomeCalendar().help(0), NONE);
    DomeCalendar g = Check.make("block 20 of 0 west;block 20 of 0 west;block 10 of 0 west;", "hill 10;");
    g.set(0, 99);
    g.set(1, 9999);
    g.set(3, 3);
    g.set(4, 3);
    Check.row("100 oxen can't be", new int[] {g.closes(), g.help(0), g.help(1)}, 1, NONE, NONE);
    g.set(0, 98);
    Check.tell(g, 1, "road 10;");
    Check.tell(g, 0, "block 20 of 0 west;block 20 of 0 west;block 20 of 0 west;block 20 of 0 west;block 19 of 0 west;");
    g.set(3, 5);
    g.set(4, 5);
    Check.row("99 can", new int[] {g.closes(), g.help(0), g.help(1)}, 1, 0, 0);
  }

  private static void nothingStays() {
    DomeCalendar c = Check.make("block 3 of 0 west;block 4 of 1 east after 0;block 2 of 2 west;", "road 25;hill 10;bridge 1;");
    Check.tell(c, 3, "wait 9;shut 0;cutters 0;masons 0;rank 0 to 2;");
    c.set(6, 500);
    c.set(7, 500);
    c.set(11, 4);
    c.weeks(3);
    int[] before = snapshot(c);
    c.planned(0);
    c.planned(1);
    c.closes();
    c.soonest(0);
    c.slack(2);
    c.spare();
    c.fewest(99);
    c.can();
    c.ways(2);
    c.herd(50, 0);
    c.without(0);
    c.help(0);
    Check.promise(17);
    Check.row("nothing stays", snapshot(c), before);
  }

  private static int[] snapshot(DomeCalendar c) {
    int[] row = new int[200];
    int n = 0;
    for (int what = 0; what < 44; what++) {
      row[n++] = c.look(what);
    }
    for (int b = 0; b < c.look(0); b++) {
      for (int what = 0; what < 15; what++) {
        row[n++] = c.of(b, what);
      }
    }
    for (int i = 0; i < 20; i++) {
      row[n++] = c.book(i, 0) * 1000 + c.book(i, 1) * 100 + c.book(i, 2) * 10 + c.book(i, 3);
    }
    return row;
  }
}
