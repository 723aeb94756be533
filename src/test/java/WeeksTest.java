/** Promises 1 to 5, 10, 11 and 13 to 16: what is told, the WEEKS, A PLAN, and what they leave. */
public final class WeeksTest {
  private static final int NONE = DomeCalendar.NONE;

  public static void main(String[] args) {
    newObject();
    state();
    set();
    vein();
    rank();
    weeks();
    weeksToTheLast();
    mudAndGrass();
    calves();
    cutting();
    teams();
    bridges();
    floods();
    laying();
    frost();
    balance();
    splitting();
    falling();
    plan();
    planSteps();
    of();
    stretch();
    order();
    book();
    Check.finish();
  }

  private static void newObject() {
    Check.promise(1);
    DomeCalendar c = new DomeCalendar();
    Check.row("look", Check.looks(c, 0, 1, 2, 3, 4, 5, 6, 7, 8, 9, 10, 11, 12), 0, 0, 0, 0, 0, 0, NONE, 0, 0, 0, 0, 0, 0);
    Check.row("settings", Check.looks(c, 20, 21, 22, 23, 24, 25, 26, 27, 28, 29, 30, 31),
        10, 100, 10, 1, 1, 0, 0, 0, 0, 52, 999, 0);
    Check.row("veins", Check.looks(c, 40, 41, 42, 43), 1, 1, 1, 1);
    Check.due("of(0, 0)", c.of(0, 0), NONE - 1);
    Check.due("stretch(0, 0)", c.stretch(0, 0), NONE);
    Check.due("order(0)", c.order(0), NONE);
    Check.due("book(0, 0)", c.book(0, 0), NONE);
    Check.due("fault(0)", c.fault(0), 0);
    Check.due("fault(1)", c.fault(1), NONE);
    Check.due("undo()", c.undo(), false);
    Check.due("image(false)", c.image(false), false);
    Check.due("plan()", c.plan(), 0);
    Check.due("weeks(60)", c.weeks(60), 0);
    Check.due("NONE", DomeCalendar.NONE, -1);
  }

  private static void state() {
    Check.promise(2);
    DomeCalendar c = new DomeCalendar();
    Check.due("state(5)", c.state(5), 0);
    Check.due("state(MIN)", c.state(Integer.MIN_VALUE), 5);
    Check.due("state(-7)", c.state(-7), Integer.MIN_VALUE);
    Check.due("look(8)", c.look(8), -7);
    c.weeks(3);
    Check.due("without RAIN, FLOOD no draws", c.look(8), -7);
    // From 0 the first draw is 3960563, modulo 1000 it is 563.
    c.state(0);
    c.set(6, 563);
    c.weeks(1);
    Check.due("mud, not below", c.look(3), 0);
    Check.due("one draw", c.look(8), 1013904223);
    c.state(0);
    c.set(6, 564);
    c.weeks(1);
    Check.due("mud, below", c.look(3), 2);
    // From 1013904223 the next is negative: its highest bits count without sign.
    int start = 1013904223;
    int next = 1664525 * start + 1013904223;
    for (int i = 0; i < 100 && next >= 0; i++) {
      start = next;
      next = 1664525 * start + 1013904223;
    }
    int bound = (int) ((next & 0xFFFFFFFFL) / 256 % 1000);
    Check.due("the next one is negative", next < 0, true);
    c.state(start);
    c.set(6, bound);
    c.weeks(1);
    Check.due("mud dries", c.look(3), 1);
    c.state(start);
    c.set(6, bound + 1);
    c.weeks(1);
    Check.due("mud, below", c.look(3), 3);
    c.set(7, 1);
    c.weeks(1);
    Check.due("two draws more", c.look(8), 1664525 * (1664525 * next + 1013904223) + 1013904223);
  }

  private static void set() {
    Check.promise(3);
    int[] least = {0, 0, 0, 0, 0, 0, 0, 0, 0, 1, 0, 0};
    int[] most = {99, 9999, 99, 9, 9, 9, 1000, 1000, 1000, 52, 999, 520};
    DomeCalendar c = new DomeCalendar();
    for (int k = 0; k < 12; k++) {
      Check.due("set " + k + " least", c.set(k, least[k]), true);
      Check.due("look", c.look(20 + k), least[k]);
      Check.due("set " + k + " most", c.set(k, most[k]), true);
      Check.due("look", c.look(20 + k), most[k]);
      Check.due("set " + k + " too few", c.set(k, least[k] - 1), false);
      Check.due("set " + k + " too many", c.set(k, most[k] + 1), false);
      Check.due("set " + k + " far off", c.set(k, Integer.MIN_VALUE), false);
      Check.due("look", c.look(20 + k), most[k]);
    }
    Check.due("set(12, 0)", c.set(12, 0), false);
    Check.due("set(-1, 0)", c.set(-1, 0), false);
    Check.due("set(MAX, 0)", c.set(Integer.MAX_VALUE, 0), false);
  }

  private static void vein() {
    Check.promise(4);
    DomeCalendar c = Check.make("block 1 of 0 west;block 1 of 2 west;", "");
    Check.due("vein(0, false)", c.vein(0, false), true);
    Check.row("veins", Check.looks(c, 40, 41, 42, 43), 0, 1, 1, 1);
    Check.due("vein(-1, false)", c.vein(-1, false), false);
    Check.due("vein(4, false)", c.vein(4, false), false);
    c.set(3, 9);
    c.weeks(1);
    Check.row("shut: in the rock, open: laid", Check.where(c), 0, 4);
    Check.due("vein(0, true)", c.vein(0, true), true);
    c.weeks(1);
    Check.row("open again: laid", Check.where(c), 4, 4);
    for (int v = 0; v < 4; v++) {
      Check.due("vein " + v, c.vein(v, v % 2 == 0), true);
    }
    Check.row("veins", Check.looks(c, 40, 41, 42, 43), 1, 0, 1, 0);
  }

  private static void rank() {
    Check.promise(5);
    DomeCalendar c = Check.make(Check.blocks(4), "");
    Check.order(c, 0, 1, 2, 3);
    Check.due("rank(0, 2)", c.rank(0, 2), true);
    Check.order(c, 1, 2, 0, 3);
    Check.due("rank(3, 0)", c.rank(3, 0), true);
    Check.order(c, 3, 1, 2, 0);
    Check.due("rank(2, 2)", c.rank(2, 2), true);
    Check.due("rank(3, 3)", c.rank(3, 3), true);
    Check.order(c, 1, 2, 0, 3);
    Check.due("rank(4, 0)", c.rank(4, 0), false);
    Check.due("rank(-1, 0)", c.rank(-1, 0), false);
    Check.due("rank(0, 4)", c.rank(0, 4), false);
    Check.due("rank(0, -1)", c.rank(0, -1), false);
    Check.order(c, 1, 2, 0, 3);
    Check.due("without blocks", new DomeCalendar().rank(0, 0), false);
    c.weeks(1);
    Check.row("the first of ORDER is laid", Check.where(c), 0, 4, 0, 0);
  }

  private static void weeks() {
    Check.promise(10);
    DomeCalendar c = Check.make(Check.blocks(5), "");
    Check.due("weeks(0)", c.weeks(0), NONE);
    Check.due("weeks(-1)", c.weeks(-1), NONE);
    Check.due("weeks(61)", c.weeks(61), NONE);
    Check.due("weeks(MAX)", c.weeks(Integer.MAX_VALUE), NONE);
    Check.due("nothing is done", c.look(2), 0);
    Check.due("weeks(2)", c.weeks(2), 2);
    Check.due("weeks(60)", c.weeks(60), 3);
    Check.due("WEEK", c.look(2), 62);
  }

  private static void weeksToTheLast() {
    Check.promise(10);
    DomeCalendar c = Check.make(Check.blocks(1), "");
    for (int i = 0; i < 166; i++) {
      c.weeks(60);
    }
    Check.due("WEEK", c.look(2), 9960);
    Check.due("beyond 9999", c.weeks(40), NONE);
    Check.due("nothing is done", c.look(2), 9960);
    Check.tell(c, 3, "wait 40;hire 1;");
    Check.promise(11);
    Check.due("a plan beyond 9999", c.plan(), NONE);
    Check.due("nothing is done", c.look(2), 9960);
    Check.due("nothing is forgotten", c.look(10), 5);
    Check.promise(10);
    Check.due("to 9999", c.weeks(39), 0);
    Check.due("WEEK", c.look(2), 9999);
    Check.due("no week more", c.weeks(1), NONE);
    Check.due("closed", c.closes(), 9998);
  }

  private static void mudAndGrass() {
    Check.promise(10);
    DomeCalendar c = new DomeCalendar();
    c.set(6, 1000);
    int[] mud = {2, 4, 6, 8, 9, 9};
    for (int i = 0; i < mud.length; i++) {
      c.weeks(1);
      Check.due("wet: mud", c.look(3), mud[i]);
      Check.due("twice the grass", c.look(21), 110 + 10 * i);
    }
    c.set(6, 0);
    c.weeks(8);
    Check.due("dry: mud", c.look(3), 1);
    c.weeks(2);
    Check.due("dry: mud, 0 at least", c.look(3), 0);
    Check.due("as much as is eaten", c.look(21), 160);
    c.set(0, 11);
    c.set(1, 9998);
    c.weeks(1);
    Check.due("9999 at most, then eaten", c.look(21), 9988);
    c.set(0, 10);
    c.set(1, 0);
    c.set(2, 3);
    c.weeks(1);
    Check.row("7 got nothing, 4 die", Check.looks(c, 20, 21), 6, 0);
    c.set(0, 10);
    c.set(2, 4);
    c.weeks(1);
    Check.row("6 got nothing, 3 die", Check.looks(c, 20, 21), 7, 0);
    c.set(0, 10);
    c.set(1, 2);
    c.set(2, 8);
    c.weeks(1);
    Check.row("just enough", Check.looks(c, 20, 21), 10, 0);
  }

  private static void calves() {
    Check.promise(10);
    int[] oxen = {0, 4, 5, 10, 14, 82, 83, 95, 99};
    int[] then = {0, 4, 6, 12, 16, 98, 99, 99, 99};
    for (int i = 0; i < oxen.length; i++) {
      DomeCalendar c = new DomeCalendar();
      c.set(0, oxen[i]);
      c.set(1, 9999);
      c.weeks(25);
      Check.due("ahead of 26", c.look(20), oxen[i]);
      c.weeks(1);
      Check.due("at 26", c.look(20), then[i]);
      c.weeks(1);
      Check.due("behind 26", c.look(20), then[i]);
    }
    DomeCalendar c = new DomeCalendar();
    c.set(1, 9999);
    c.weeks(52);
    Check.due("at 52 again", c.look(20), 14);
  }

  private static void cutting() {
    Check.promise(10);
    DomeCalendar c = Check.make("block 1 of 1 west;block 1 of 0 west;block 1 of 0 west;block 1 of 0 west;", "road 99;");
    c.vein(1, false);
    c.set(3, 2);
    c.rank(3, 0);
    c.weeks(1);
    Check.row("two by ORDER of what is open", Check.where(c), 0, 2, 0, 2);
    Check.row("nothing but what is cut", new int[] {c.of(0, 5), c.of(1, 5), c.of(2, 5), c.of(3, 6)}, NONE, 0, NONE, 10);
    c.weeks(1);
    Check.row("the next one", Check.where(c), 0, 2, 2, 2);
    c.set(3, 0);
    c.vein(1, true);
    c.weeks(3);
    Check.row("no cutters", Check.where(c), 0, 2, 2, 2);
    Check.line(c, 0, 0, 3, 0, 0);
    Check.line(c, 1, 0, 1, 0, 0);
    Check.line(c, 2, 1, 2, 0, 0);
    Check.due("lines", c.look(7), 3);
  }

  private static void teams() {
    Check.promise(10);
    DomeCalendar c = Check.make("block 6 of 0 west;block 5 of 0 west;", "road 20;");
    c.set(0, 5);
    c.set(3, 2);
    c.weeks(1);
    Check.row("who waits is on the way", new int[] {c.of(0, 4), c.of(0, 5), c.of(0, 6)}, 2, 0, 0);
    Check.due("who waits has no team", c.of(1, 6), 10);
    Check.waited(c, 0, 1, 0, 0, 0, 0);
    Check.waited(c, 1, 0, 0, 0, 0, 0);
    c.set(0, 10);
    c.weeks(1);
    Check.row("who is ahead has it", new int[] {c.of(0, 6), c.of(1, 6), c.of(1, 10)}, 10, 10, 1);
    c.set(0, 11);
    c.weeks(1);
    Check.row("both go", Check.where(c), 4, 3);
    DomeCalendar hill = Check.make("block 5 of 0 west;", "hill 20;");
    hill.set(0, 9);
    hill.weeks(1);
    Check.row("a hill needs twice", new int[] {hill.of(0, 6), hill.of(0, 10)}, 0, 1);
    hill.set(0, 10);
    hill.weeks(1);
    Check.row("a hill needs twice", new int[] {hill.of(0, 6), hill.of(0, 10)}, 10, 1);
    DomeCalendar river = Check.make("block 20 of 0 west;", "river 20;road 5;");
    river.set(0, 0);
    river.weeks(2);
    Check.row("a river needs none", new int[] {river.of(0, 5), river.of(0, 6), river.of(0, 10)}, 1, 0, 0);
    river.weeks(1);
    Check.row("a road does", new int[] {river.of(0, 5), river.of(0, 6), river.of(0, 10)}, 1, 0, 1);
    DomeCalendar slow = Check.make("block 5 of 0 west;block 5 of 0 west;", "road 20;");
    Check.tell(slow, 2, "haul 0;");
    slow.set(0, 5);
    slow.set(3, 2);
    slow.weeks(1);
    Check.row("who goes nowhere has a team", new int[] {slow.of(0, 10), slow.of(1, 10)}, 0, 1);
  }

  private static void bridges() {
    Check.promise(10);
    DomeCalendar c = Check.make("block 4 of 0 west;block 4 of 0 west;block 4 of 0 west;", "bridge 1;road 99;");
    c.set(0, 8);
    c.set(3, 3);
    c.weeks(1);
    Check.row("one is over", new int[] {c.of(0, 5), c.of(1, 5), c.of(2, 5)}, 1, 0, 0);
    Check.row("not on this week", new int[] {c.of(0, 6), c.stretch(0, 2), c.stretch(1, 2)}, 0, 2, 1);
    Check.waited(c, 1, 0, 1, 0, 0, 0);
    // The second has no team while it waits, so the third waits for the bridge too.
    Check.waited(c, 2, 0, 1, 0, 0, 0);
    c.set(0, 4);
    c.weeks(1);
    Check.waited(c, 1, 1, 1, 0, 0, 0);
    Check.waited(c, 2, 1, 1, 0, 0, 0);
    DomeCalendar two = Check.make(Check.blocks(5), "bridge 2;bridge 9;");
    two.set(3, 5);
    two.weeks(1);
    Check.row("two over it", new int[] {two.stretch(0, 2), two.stretch(1, 2)}, 3, 2);
    two.weeks(1);
    Check.row("two more", new int[] {two.stretch(0, 2), two.stretch(1, 2)}, 1, 2);
  }

  private static void floods() {
    Check.promise(10);
    DomeCalendar c = Check.make("block 1 of 0 west;block 1 of 0 west;", "river 50;river 50;road 10;");
    c.set(3, 2);
    c.set(7, 1000);
    c.rank(1, 0);
    c.weeks(1);
    Check.row("over one river", new int[] {c.of(0, 5), c.of(0, 6), c.of(1, 5)}, 1, 0, 1);
    Check.line(c, 2, 0, 1, 1, 0);
    Check.line(c, 3, 0, 0, 1, 0);
    c.weeks(1);
    Check.row("over the next", new int[] {c.of(0, 5), c.of(0, 6), c.of(1, 5)}, 2, 0, 2);
    c.set(7, 0);
    c.weeks(1);
    Check.row("a road needs no flood", Check.where(c), 3, 4);
    DomeCalendar d = Check.make("block 1 of 0 west;", "river 10;river 50;");
    d.set(7, 1000);
    d.weeks(1);
    Check.due("over the first by hauling, over the next by the flood, and laid", d.of(0, 4), 4);
    Check.line(d, 0, 0, 0, 0, 0);
    Check.line(d, 1, 0, 0, 1, 0);
    Check.line(d, 2, 0, 0, 1, 1);
    Check.line(d, 3, 0, 0, 2, 0);
    Check.line(d, 4, 0, 0, 3, 0);
    DomeCalendar e = Check.make("block 1 of 0 west;", "road 50;");
    e.set(7, 1000);
    e.weeks(1);
    Check.due("a road is no river", e.of(0, 6), 10);
    // From 0 the first draw is 563.
    DomeCalendar f = Check.make("block 1 of 0 west;", "river 99;road 9;");
    f.set(7, 563);
    f.weeks(1);
    Check.due("not below FLOOD", f.of(0, 5), 0);
    f.state(0);
    f.set(7, 564);
    f.weeks(1);
    Check.due("below FLOOD", f.of(0, 5), 1);
  }

  private static void laying() {
    Check.promise(10);
    DomeCalendar c = Check.make("block 1 of 0 west;block 1 of 0 west after 0;block 1 of 0 west;", "");
    c.set(3, 3);
    c.set(4, 2);
    c.rank(1, 0);
    Check.due("gone through once", c.weeks(1), 2);
    Check.row("who came too early", Check.where(c), 4, 3, 4);
    // Behind that it could be laid, so it waited for masons, and not for others.
    Check.waited(c, 1, 0, 0, 0, 1, 0);
    Check.due("SINCE", c.look(6), 0);
    Check.due("the rest", c.weeks(1), 1);
    Check.due("SINCE stays", c.look(6), 0);
    DomeCalendar d = Check.make("block 1 of 0 west;block 1 of 0 west after 0;block 1 of 0 west after 1;", "");
    d.set(3, 3);
    d.set(4, 3);
    Check.due("each by what is laid then", d.weeks(1), 3);
    DomeCalendar e = Check.make("block 1 of 0 west;block 1 of 0 west after 0;block 1 of 0 west;", "");
    e.set(3, 3);
    e.set(4, 0);
    Check.due("no masons", e.weeks(1), 0);
    Check.waited(e, 0, 0, 0, 0, 1, 0);
    Check.waited(e, 1, 0, 0, 0, 0, 1);
    Check.waited(e, 2, 0, 0, 0, 1, 0);
  }

  private static void frost() {
    Check.promise(10);
    DomeCalendar c = Check.make("block 1 of 0 west;block 1 of 0 west;block 1 of 0 west after 1;", "");
    c.set(3, 3);
    c.set(9, 1);
    Check.due("week 0", c.weeks(1), 1);
    Check.due("frost", c.weeks(51), 0);
    Check.waited(c, 1, 0, 0, 51, 1, 0);
    Check.waited(c, 2, 0, 0, 0, 0, 52);
    Check.due("week 52", c.weeks(1), 1);
    Check.row("where", Check.where(c), 4, 4, 3);
    DomeCalendar d = Check.make(Check.blocks(1), "");
    d.vein(0, false);
    d.weeks(51);
    d.vein(0, true);
    Check.due("FROST 52: no frost in week 51", d.weeks(1), 1);
    DomeCalendar e = Check.make(Check.blocks(1), "");
    e.vein(0, false);
    e.set(9, 51);
    e.weeks(51);
    e.vein(0, true);
    Check.due("FROST 51: frost in week 51", e.weeks(1), 0);
    Check.due("week 52", e.weeks(1), 1);
  }

  private static void balance() {
    Check.promise(10);
    DomeCalendar c = Check.make("block 4 of 0 west;block 4 of 0 west;block 3 of 0 east;", "");
    c.set(3, 3);
    c.set(4, 3);
    c.set(10, 4);
    Check.due("the second would be 8", c.weeks(1), 2);
    Check.row("where", Check.where(c), 4, 3, 4);
    Check.due("apart", c.look(11), 1);
    // 1 and 4 are 5.
    Check.waited(c, 1, 0, 0, 0, 0, 1);
    c.set(10, 5);
    Check.due("not more apart", c.weeks(1), 1);
    Check.due("apart", c.look(11), 5);
    DomeCalendar d = Check.make("block 4 of 0 east;", "");
    d.set(10, 3);
    Check.due("the east outweighs", d.weeks(1), 0);
    Check.due("can", d.can(), 0);
    d.set(10, 4);
    Check.due("held", d.weeks(1), 1);
    Check.due("apart", d.look(11), -4);
  }

  private static void splitting() {
    Check.promise(10);
    DomeCalendar c = Check.make("block 1 of 3 west;block 1 of 3 west;block 1 of 2 west after 1;block 9 of 1 west;", "river 10;");
    c.set(0, 0);
    c.set(3, 9);
    c.set(8, 1000);
    c.set(9, 1);
    c.set(6, 1000);
    c.vein(1, false);
    Check.due("no frost yet", c.weeks(1), 1);
    Check.row("where", Check.where(c), 4, 3, 3, 0);
    Check.due("no draw but for rain", c.look(8), 1013904223);
    c.vein(0, false);
    c.vein(3, false);
    c.state(0);
    c.weeks(1);
    Check.row("in the rock again", Check.where(c), 4, 0, 0, 0);
    Check.row("veins", new int[] {c.of(0, 1), c.of(1, 1), c.of(2, 1), c.of(3, 1)}, 3, 0, 3, 1);
    int draws = 0;
    for (int i = 0; i < 3; i++) {
      draws = 1664525 * draws + 1013904223;
    }
    Check.due("rain and two of them", c.look(8), draws);
    int last = c.look(7);
    Check.line(c, last - 2, 1, 1, 4, 0);
    Check.line(c, last - 1, 1, 2, 4, 0);
    Check.due("of a split one no stretch", c.of(1, 5), NONE);
    c.set(6, 0);
    c.vein(0, true);
    c.weeks(1);
    Check.row("dry: none", Check.where(c), 4, 3, 0, 0);
    int second = 1664525 * 1013904223 + 1013904223;
    int bound = (second >>> 8) % 1000;
    c.set(6, 1000);
    c.set(8, bound);
    c.state(0);
    c.weeks(1);
    Check.row("not below SPLIT", Check.where(c), 4, 3, 0, 0);
    Check.due("a draw all the same", c.look(8), second);
    c.set(8, bound + 1);
    c.state(0);
    c.weeks(1);
    Check.row("below SPLIT", Check.where(c), 4, 0, 0, 0);
    c.vein(1, true);
    c.set(6, 0);
    c.weeks(1);
    Check.row("cut in its new vein", Check.where(c), 4, 3, 0, 3);
    c.set(8, 0);
    c.set(6, 1000);
    c.state(0);
    c.weeks(1);
    Check.row("SPLIT 0: none", Check.where(c), 4, 3, 0, 3);
    Check.due("and no draw", c.look(8), 1013904223);
  }

  private static void falling() {
    Check.promise(10);
    DomeCalendar c = Check.make("block 2 of 0 west;block 3 of 0 east;block 1 of 1 west;", "");
    c.vein(1, false);
    c.set(3, 9);
    c.set(11, 2);
    c.rank(1, 0);
    Check.due("laid", c.weeks(2), 2);
    Check.row("SINCE, apart", Check.looks(c, 6, 11, 5), 0, -1, 0);
    c.weeks(1);
    Check.row("it falls in week 2", Check.where(c), 3, 3, 0);
    Check.row("FALLS, SINCE, apart, LAID", Check.looks(c, 5, 6, 11, 4), 1, NONE, 0, 0);
    int last = c.look(7);
    Check.line(c, last - 2, 2, 0, 5, 0);
    Check.line(c, last - 1, 2, 1, 5, 0);
    c.weeks(1);
    Check.row("laid again", Check.looks(c, 4, 6), 1, 3);
    c.vein(1, true);
    c.set(4, 9);
    Check.due("all are laid", c.weeks(1), 2);
    c.weeks(9);
    Check.due("nothing falls then", c.look(5), 1);
    DomeCalendar d = Check.make("block 2 of 0 west;block 1 of 1 west;", "");
    d.vein(1, false);
    d.set(11, 1);
    Check.due("laid, fallen, laid, fallen", d.weeks(4), 2);
    Check.row("FALLS, LAID", Check.looks(d, 5, 4), 2, 0);
    d.set(11, 0);
    d.weeks(60);
    Check.row("CENTRE 0: none", Check.looks(d, 5, 4), 2, 1);
  }

  private static void plan() {
    Check.promise(11);
    DomeCalendar c = Check.make(Check.blocks(3), "");
    c.weeks(1);
    Check.due("an empty plan", c.plan(), 0);
    Check.due("nothing can be undone behind it", c.undo(), false);
    Check.tell(c, 3, "wait 1;again 3(wait 2;)");
    c.set(6, 1000);
    Check.due("plan()", c.plan(), 7);
    Check.row("WEEK, LAID, MUD, undone", Check.looks(c, 2, 4, 3, 10), 8, 3, 9, 0);
    Check.due("once more", c.plan(), 7);
    Check.due("WEEK", c.look(2), 15);
    DomeCalendar d = new DomeCalendar();
    Check.tell(d, 3, "again 9(again 9(wait 60;))");
    Check.due("4860", d.plan(), 4860);
    Check.due("9720", d.plan(), 4860);
    Check.due("beyond", d.plan(), NONE);
    Check.due("WEEK", d.look(2), 9720);
    Check.tell(d, 3, "again 4(wait 60;)wait 39;");
    Check.due("to the last", d.plan(), 279);
    Check.due("WEEK", d.look(2), 9999);
  }

  private static void planSteps() {
    Check.promise(11);
    DomeCalendar c = Check.make(Check.blocks(3), "");
    Check.tell(c, 3, "rank 2 to 0;rank 3 to 0;rank 0 to 3;hire 5;shut 0;shut 3;cutters 7;masons 0;");
    Check.due("no weeks", c.plan(), 0);
    Check.order(c, 2, 0, 1);
    Check.row("OXEN, CUTTERS, MASONS", Check.looks(c, 20, 23, 24), 15, 7, 0);
    Check.row("veins", Check.looks(c, 40, 41, 42, 43), 0, 1, 1, 0);
    Check.tell(c, 3, "sell 16;open 3;cutters 0;masons 9;");
    c.plan();
    Check.row("OXEN 0 at least", Check.looks(c, 20, 23, 24), 0, 0, 9);
    Check.row("veins", Check.looks(c, 40, 41, 42, 43), 0, 1, 1, 1);
    Check.tell(c, 3, "hire 60;sell 1;hire 40;");
    c.plan();
    Check.due("99", c.look(20), 99);
    Check.tell(c, 3, "hire 9;sell 9;");
    c.plan();
    Check.due("99 at most, then less", c.look(20), 90);
    Check.tell(c, 3, "open 0;cutters 1;masons 1;wait 1;shut 0;wait 5;open 0;wait 1;");
    Check.due("step by step", c.plan(), 7);
    Check.row("the first and the next of ORDER", Check.where(c), 4, 0, 4);
    Check.line(c, 2, 0, 2, 3, 0);
    Check.line(c, 5, 6, 0, 3, 0);
  }

  private static void of() {
    Check.promise(13);
    DomeCalendar c = Check.make("block 7 of 2 east;block 20 of 3 west after 0;", "road 30;hill 9;");
    c.weeks(2);
    int[] got = new int[8];
    for (int i = 0; i < 8; i++) {
      got[i] = c.of(0, i);
    }
    Check.row("of(0)", got, 7, 2, 1, 0, 2, 0, 20, 0);
    for (int i = 0; i < 8; i++) {
      got[i] = c.of(1, i);
    }
    Check.row("of(1)", got, 20, 3, 0, 1, 2, 0, 0, 1);
    Check.waited(c, 1, 1, 0, 0, 0, 0);
    c.weeks(1);
    Check.row("on the next", new int[] {c.of(0, 5), c.of(0, 6)}, 1, 0);
    for (int what : new int[] {-1, 8, 9, 15, 16, Integer.MIN_VALUE, Integer.MAX_VALUE}) {
      Check.due("of(0, " + what + ")", c.of(0, what), -2);
    }
    for (int block : new int[] {-1, 2, 14, Integer.MIN_VALUE, Integer.MAX_VALUE}) {
      Check.due("of(" + block + ", 0)", c.of(block, 0), -2);
    }
    c.set(0, 99);
    c.set(1, 9999);
    c.weeks(9);
    Check.row("laid: no stretch", new int[] {c.of(0, 4), c.of(0, 5), c.of(0, 6)}, 4, NONE, NONE);
  }

  private static void stretch() {
    Check.promise(14);
    DomeCalendar c = Check.make(Check.blocks(2), "road 30;hill 9;river 8;bridge 3;");
    Check.row("sorts", new int[] {c.stretch(0, 0), c.stretch(1, 0), c.stretch(2, 0), c.stretch(3, 0)}, 0, 1, 2, 3);
    Check.row("lengths, ROOM", new int[] {c.stretch(0, 1), c.stretch(1, 1), c.stretch(2, 1), c.stretch(3, 1)}, 30, 9, 8, 3);
    Check.due("none on it", c.stretch(0, 2), 0);
    c.set(3, 2);
    c.weeks(1);
    Check.due("two on it", c.stretch(0, 2), 2);
    c.weeks(9);
    Check.due("none on it", c.stretch(0, 2), 0);
    Check.due("stretch(4, 0)", c.stretch(4, 0), NONE);
    Check.due("stretch(-1, 0)", c.stretch(-1, 0), NONE);
    Check.due("stretch(0, 3)", c.stretch(0, 3), NONE);
    Check.due("stretch(0, -1)", c.stretch(0, -1), NONE);
  }

  private static void order() {
    Check.promise(15);
    DomeCalendar c = Check.make(Check.blocks(14), "");
    c.rank(13, 0);
    Check.order(c, 13, 0, 1, 2, 3, 4, 5, 6, 7, 8, 9, 10, 11, 12);
    Check.due("order(-1)", c.order(-1), NONE);
    Check.due("order(14)", c.order(14), NONE);
    Check.due("order(MAX)", c.order(Integer.MAX_VALUE), NONE);
  }

  private static void book() {
    Check.promise(16);
    DomeCalendar c = Check.make(Check.blocks(5) + "block 1 of 1 west;", "");
    c.vein(1, false);
    c.set(3, 9);
    c.set(4, 9);
    c.set(11, 1);
    c.weeks(2);
    // Five cut, come and are laid in week 0, and fall in week 1: then ten lines in two weeks.
    Check.due("lines", c.look(7), 20);
    Check.line(c, 4, 0, 4, 0, 0);
    Check.line(c, 5, 0, 0, 2, 0);
    Check.line(c, 10, 0, 0, 3, 0);
    Check.line(c, 15, 1, 0, 5, 0);
    c.weeks(35);
    Check.due("lines", c.look(7), 195);
    c.weeks(1);
    Check.due("lines", c.look(7), 200);
    Check.line(c, 199, 37, 4, 5, 0);
    c.weeks(10);
    Check.due("no more", c.look(7), 200);
    Check.line(c, 199, 37, 4, 5, 0);
    Check.due("book(200, 0)", c.book(200, 0), NONE);
    Check.due("book(-1, 0)", c.book(-1, 0), NONE);
    Check.due("book(0, 4)", c.book(0, 4), NONE);
    Check.due("book(0, -1)", c.book(0, -1), NONE);
    DomeCalendar d = Check.make(Check.blocks(1), "road 5;bridge 1;");
    d.weeks(2);
    Check.line(d, 0, 0, 0, 0, 0);
    Check.line(d, 1, 0, 0, 1, 0);
    Check.line(d, 2, 1, 0, 1, 1);
    Check.line(d, 3, 1, 0, 2, 0);
    Check.line(d, 4, 1, 0, 3, 0);
    Check.due("lines", d.look(7), 5);
  }
}
