import java.util.ArrayList;
import java.util.List;

/** Promises 1 to 5 at their bounds: a new object, and what one call tells. */
public final class BoundsOfTellingTest extends Bounds {
  public static void main(String[] args) {
    run(BoundsOfTellingTest.class);
  }

  // ---- promise 1: a new object

  @Says("The constants: `NONE = -1`: None.")
  static void promise1NoneIsMinusOne() {
    due("NONE", DomeCalendar.NONE, -1);
    due("closes() of none", new DomeCalendar().closes(), -1);
  }

  @Says({"No blocks, no way.", "BLOCKS 0 .. 13 (none at first)"})
  static void promise1NoBlocks() {
    DomeCalendar c = new DomeCalendar();
    row("BLOCKS, LAID, apart", looks(c, 0, 4, 11), 0, 0, 0);
    row("of", ints(c.of(0, 0), c.of(0, 4), c.of(0, 7), c.of(0, 10)), -2, -2, -2, -2);
    row("order, chain, slack, took", ints(c.order(0), c.chain(0), c.slack(0), c.took(0, 0)), NONE, NONE, NONE, NONE);
    row("closes, soonest, spare, fewest", ints(c.closes(), c.soonest(0), c.spare(), c.fewest(0)), NONE, NONE, NONE, NONE);
    row("without, help, planned", ints(c.without(0), c.help(0), c.planned(0), c.planned(1)), NONE, NONE, 0, NONE);
    row("can, blame", ints(c.can(), c.blame(0), c.blame(1)), 0, NONE, 0);
    row("ways", ints((int) c.ways(0), (int) c.ways(1), (int) c.ways(2)), 1, 1, 1);
    due("rank", c.rank(0, 0), false);
    due("weeks", c.weeks(60), 0);
    row("no lines, WEEK", looks(c, 7, 2), 0, 60);
    text(c, 0, blocks(1), 1);
    row("one block", ints(c.look(0), c.of(0, 0), c.order(0), c.chain(0), c.closes()), 1, 1, 0, 1, 0);
  }

  @Says("STRETCHES 0 .. 7 (none at first)")
  static void promise1NoWay() {
    DomeCalendar c = new DomeCalendar();
    row("no stretch", ints(c.look(1), c.stretch(0, 0), c.stretch(0, 1), c.stretch(0, 2)), 0, NONE, NONE, NONE);
    text(c, 0, blocks(1), 1);
    due("laid at once", c.weeks(1), 1);
    text(c, 1, "road 1;", 1);
    row("one stretch", ints(c.look(1), c.stretch(0, 0), c.stretch(0, 1), c.stretch(0, 2)), 1, 0, 1, 0);
  }

  @Says({"(10, 100, 10, 1, 1, 0 at first)", "RAIN, FLOOD, SPLIT 0 .. 1000 (0 each at first)", "(52 at first)",
      "(999 at first)", "CENTRE 0 .. 520 (0 at first)"})
  static void promise1SettingsAtFirst() {
    DomeCalendar c = new DomeCalendar();
    row("settings", looks(c, 20, 21, 22, 23, 24, 25, 26, 27, 28, 29, 30, 31), 10, 100, 10, 1, 1, 0, 0, 0, 0, 52, 999, 0);
  }

  @Says("VEINS open or not (all open at first).")
  static void promise1AllVeinsAreOpen() {
    DomeCalendar c = dome("block 1 of 0 west;block 1 of 1 west;block 1 of 2 west;block 1 of 3 west;");
    row("veins", looks(c, 40, 41, 42, 43), 1, 1, 1, 1);
    settings(c, CUTTERS, 4, MASONS, 4);
    due("each is cut and laid", c.weeks(1), 4);
  }

  @Says({"MUD 0 .. 9 (0 at first), WEEK 0 .. 9999 (0 at first), FALLS (0 at first)", "STATE of draws (an int, 0 at first)"})
  static void promise1CountsAtFirst() {
    DomeCalendar c = new DomeCalendar();
    row("WEEK, MUD, FALLS, SINCE, lines, STATE, undone", looks(c, 2, 3, 5, 6, 7, 8, 10), 0, 0, 0, NONE, 0, 0, 0);
    row("book", ints(c.book(0, 0), c.book(0, 1), c.book(0, 2), c.book(0, 3)), NONE, NONE, NONE, NONE);
    due("nothing to undo", c.undo(), false);
    due("no image", c.image(false), false);
  }

  @Says("TEXTS (empty at first).")
  static void promise1TextsAreEmpty() {
    DomeCalendar c = new DomeCalendar();
    row("lines, STEPS, FAULT, place", ints(c.look(9), c.look(12), c.fault(0), c.fault(1)), 0, 0, 0, NONE);
    due("the tape is empty", c.end(1), false);
    due("a plan of no weeks", c.plan(), 0);
    due("told as it is", c.text(2), 0);
    text(c, 0, blocks(1), 1);
    text(c, 1, "road 99;", 1);
    c.weeks(1);
    due("without a law 10", c.of(0, 6), 10);
  }

  @Says("No blocks, no way.")
  static void promise1EachObjectIsNew() {
    DomeCalendar c = make(blocks(14), "road 9;".repeat(8));
    text(c, 2, "haul 1;", 1);
    text(c, 3, "wait 1;", 1);
    for (int k = 0; k < 12; k++) {
      c.set(k, 7);
    }
    c.vein(0, false);
    c.state(5);
    c.weeks(9);
    c.image(true);
    DomeCalendar d = new DomeCalendar();
    row("BLOCKS .. STEPS", looks(d, 0, 1, 2, 3, 4, 5, 6, 7, 8, 9, 10, 11, 12), 0, 0, 0, 0, 0, 0, NONE, 0, 0, 0, 0, 0, 0);
    row("settings", looks(d, 20, 21, 22, 23, 24, 25, 26, 27, 28, 29, 30, 31), 10, 100, 10, 1, 1, 0, 0, 0, 0, 52, 999, 0);
    due("open", d.look(40), 1);
    due("no image", d.image(false), false);
  }

  // ---- promise 2: state

  @Says("STATE is told: what it was.")
  static void promise2AnyInt() {
    DomeCalendar c = new DomeCalendar();
    int was = 0;
    for (int v : ints(1, 0, -1, MAX, MAX - 1, MIN, MIN + 1, 0)) {
      due("state(" + v + ")", c.state(v), was);
      due("look(8)", c.look(8), v);
      was = v;
    }
  }

  @Says("a DRAW of m: it becomes 1664525 times itself + 1013904223 (ints, which wrap)")
  static void promise2DrawsWrap() {
    DomeCalendar c = new DomeCalendar();
    settings(c, RAIN, 1);
    for (int v : ints(0, 1, -1, MAX, MAX - 1, MIN, MIN + 1, stateBefore(0), stateBefore(-1), stateBefore(MIN))) {
      c.state(v);
      c.weeks(1);
      due("behind one draw from " + v, c.look(8), (int) (1664525L * v + 1013904223L));
      c.weeks(1);
      due("behind two draws from " + v, c.look(8), (int) (1664525L * (int) (1664525L * v + 1013904223L) + 1013904223L));
    }
  }

  @Says("then it is its highest 24 bits (without sign) modulo m")
  static void promise2HighestBitsWithoutSign() {
    // The highest 24 bits of each, modulo 1000; 16777215 is the most they can be.
    int[] next = {0, 255, 256, 999 << 8, 1000 << 8, MAX, MIN, -1, -256, -257};
    int[] draw = {0, 0, 1, 999, 0, 607, 608, 215, 215, 214};
    for (int i = 0; i < next.length; i++) {
      due("wet by " + draw[i] + " at RAIN 1 less", wet(stateBefore(next[i]), draw[i] - 1), false);
      due("wet by " + draw[i] + " at RAIN alike", wet(stateBefore(next[i]), draw[i]), false);
      due("wet by " + draw[i] + " at RAIN 1 more", wet(stateBefore(next[i]), draw[i] + 1), true);
    }
  }

  private static boolean wet(int state, int rain) {
    DomeCalendar c = new DomeCalendar();
    c.state(state);
    c.set(RAIN, Math.max(0, rain));
    c.weeks(1);
    return c.look(3) == 2;
  }

  // ---- promise 3: set

  /** At each bound, one inside and one outside; what is refused leaves all as it was. */
  private static void from(int what, int least, int most) {
    DomeCalendar c = dome(blocks(2));
    c.weeks(1);
    int[] before = all(c);
    for (int v : ints(least - 1, most + 1, least - 2, most + 2, MIN, MAX)) {
      due("set(" + what + ", " + v + ")", c.set(what, v), false);
    }
    unchanged("a refused set", c, before, 1);
    for (int v : ints(least, least + 1, most - 1, most)) {
      due("set(" + what + ", " + v + ")", c.set(what, v), true);
      due("look", c.look(20 + what), v);
    }
    due("what is told forgets", c.look(10), 0);
    for (int v : ints(least - 1, most + 1)) {
      due("set(" + what + ", " + v + ")", c.set(what, v), false);
      due("look", c.look(20 + what), most);
    }
    for (int k = 0; k < 12; k++) {
      if (k != what) {
        due("another one stays: " + k, c.look(20 + k), new int[] {10, 100, 10, 1, 1, 0, 0, 0, 0, 52, 999, 0}[k]);
      }
    }
  }

  @Says("OXEN 0 .. 99")
  static void promise3Oxen() {
    from(0, 0, 99);
  }

  @Says("GRASS 0 .. 9999")
  static void promise3Grass() {
    from(1, 0, 9999);
  }

  @Says("GROW 0 .. 99")
  static void promise3Grow() {
    from(2, 0, 99);
  }

  @Says("CUTTERS 0 .. 9")
  static void promise3Cutters() {
    from(3, 0, 9);
  }

  @Says("MASONS 0 .. 9")
  static void promise3Masons() {
    from(4, 0, 9);
  }

  @Says("GREASE 0 .. 9")
  static void promise3Grease() {
    from(5, 0, 9);
  }

  @Says("RAIN, FLOOD, SPLIT 0 .. 1000")
  static void promise3Rain() {
    from(6, 0, 1000);
  }

  @Says("RAIN, FLOOD, SPLIT 0 .. 1000")
  static void promise3Flood() {
    from(7, 0, 1000);
  }

  @Says("RAIN, FLOOD, SPLIT 0 .. 1000")
  static void promise3Split() {
    from(8, 0, 1000);
  }

  @Says("FROST 1 .. 52")
  static void promise3Frost() {
    from(9, 1, 52);
  }

  @Says("BALANCE 0 .. 999")
  static void promise3Balance() {
    from(10, 0, 999);
  }

  @Says("CENTRE 0 .. 520")
  static void promise3Centre() {
    from(11, 0, 520);
  }

  @Says("What 0 OXEN, 1 GRASS, 2 GROW, 3 CUTTERS, 4 MASONS, 5 GREASE, 6 RAIN, 7 FLOOD, 8 SPLIT, 9 FROST, 10 BALANCE, "
      + "11 CENTRE: true; false if one can't be, or another what.")
  static void promise3WhatFrom0To11() {
    DomeCalendar c = dome(blocks(2));
    c.weeks(1);
    int[] before = all(c);
    for (int what : ints(-1, 12, 13, 20, MIN, MAX)) {
      due("set(" + what + ", 1)", c.set(what, 1), false);
    }
    unchanged("another what", c, before, 1);
    for (int what : ints(0, 1, 10, 11)) {
      due("set(" + what + ", 1)", c.set(what, 1), true);
      due("look", c.look(20 + what), 1);
    }
  }

  // ---- promise 4: vein

  @Says("A VEIN is open or not: true; false if there is none such.")
  static void promise4VeinFrom0To3() {
    DomeCalendar c = dome(blocks(2));
    c.weeks(1);
    int[] before = all(c);
    for (int v : ints(-1, 4, 5, MIN, MAX)) {
      due("vein(" + v + ", false)", c.vein(v, false), false);
      due("vein(" + v + ", true)", c.vein(v, true), false);
    }
    unchanged("no such vein", c, before, 1);
    for (int v : ints(0, 1, 2, 3)) {
      due("vein(" + v + ", false)", c.vein(v, false), true);
      due("shut", c.look(40 + v), 0);
      due("what is told forgets", c.look(10), 0);
      due("shut once more", c.vein(v, false), true);
      due("shut", c.look(40 + v), 0);
    }
    row("all shut", looks(c, 40, 41, 42, 43), 0, 0, 0, 0);
    due("vein(3, true)", c.vein(3, true), true);
    row("the last one is open", looks(c, 40, 41, 42, 43), 0, 0, 0, 1);
    due("vein(0, true)", c.vein(0, true), true);
    row("and the first one", looks(c, 40, 41, 42, 43), 1, 0, 0, 1);
  }

  @Says("a VEIN 0 .. 3")
  static void promise4EachVeinAlone() {
    for (int v = 0; v < 4; v++) {
      DomeCalendar c = dome("block 1 of 0 west;block 1 of 1 west;block 1 of 2 west;block 1 of 3 west;");
      settings(c, CUTTERS, 9, MASONS, 9);
      c.vein(v, false);
      due("laid with " + v + " shut", c.weeks(1), 3);
      due("in the rock", c.of(v, 4), 0);
      c.vein(v, true);
      due("laid with " + v + " open", c.weeks(1), 1);
    }
  }

  // ---- promise 5: rank

  @Says("A BLOCK comes to a place of ORDER, the others as they stood: true; false if one can't be.")
  static void promise5BlockAndPlace() {
    DomeCalendar c = dome(blocks(3));
    c.rank(2, 0);
    c.weeks(1);
    order(c, 2, 0, 1);
    int[] before = all(c);
    for (int wrong : ints(-1, 3, 4, 13, 14, MIN, MAX)) {
      due("rank(" + wrong + ", 0)", c.rank(wrong, 0), false);
      due("rank(0, " + wrong + ")", c.rank(0, wrong), false);
      due("rank(" + wrong + ", " + wrong + ")", c.rank(wrong, wrong), false);
    }
    unchanged("a refused rank", c, before, 1);
    due("the first block to the first place", c.rank(0, 0), true);
    order(c, 0, 2, 1);
    due("the last block to the last place", c.rank(2, 2), true);
    order(c, 0, 1, 2);
    due("the last block to the first place", c.rank(2, 0), true);
    order(c, 2, 0, 1);
    due("the first block to the last place", c.rank(0, 2), true);
    order(c, 2, 1, 0);
    due("where it stands", c.rank(1, 1), true);
    order(c, 2, 1, 0);
    due("ORDER forgets nothing", c.look(10), 1);
  }

  @Says("ORDER: a row of all BLOCKS (by number at first).")
  static void promise5NoneOneAndFourteen() {
    DomeCalendar none = new DomeCalendar();
    due("rank(0, 0) of none", none.rank(0, 0), false);
    due("order(0) of none", none.order(0), NONE);
    DomeCalendar one = dome(blocks(1));
    order(one, 0);
    due("rank(0, 0) of one", one.rank(0, 0), true);
    due("rank(0, 1) of one", one.rank(0, 1), false);
    due("rank(1, 0) of one", one.rank(1, 0), false);
    order(one, 0);
    DomeCalendar all = dome(blocks(14));
    order(all, 0, 1, 2, 3, 4, 5, 6, 7, 8, 9, 10, 11, 12, 13);
    due("rank(13, 13)", all.rank(13, 13), true);
    due("rank(13, 0)", all.rank(13, 0), true);
    order(all, 13, 0, 1, 2, 3, 4, 5, 6, 7, 8, 9, 10, 11, 12);
    due("rank(0, 13)", all.rank(0, 13), true);
    order(all, 13, 1, 2, 3, 4, 5, 6, 7, 8, 9, 10, 11, 12, 0);
    due("rank(14, 0)", all.rank(14, 0), false);
    due("rank(0, 14)", all.rank(0, 14), false);
    order(all, 13, 1, 2, 3, 4, 5, 6, 7, 8, 9, 10, 11, 12, 0);
  }

  @Says("the others as they stood")
  static void promise5EachToEachPlace() {
    for (int block = 0; block < 5; block++) {
      for (int place = 0; place < 5; place++) {
        DomeCalendar c = dome(blocks(5));
        List<Integer> due = new ArrayList<>(List.of(0, 1, 2, 3, 4));
        due.remove(Integer.valueOf(block));
        due.add(place, block);
        due("rank", c.rank(block, place), true);
        order(c, due.stream().mapToInt(Integer::intValue).toArray());
        c.weeks(1);
        due("the first of ORDER is cut first", c.book(0, 1), due.get(0));
      }
    }
  }
}
