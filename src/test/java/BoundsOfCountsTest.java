/** Promises 22 to 27 at their bounds: CAN, WAYS, CHAIN, TOOK, BLAME and HERD. */
public final class BoundsOfCountsTest extends Bounds {
  public static void main(String[] args) {
    run(BoundsOfCountsTest.class);
  }

  // ---- promise 22: can

  @Says({"CAN, as a set.", "CAN: the BLOCKS that are at THE DOME and could be LAID now, if MASONS had time (FROST not asked)."})
  static void promise22AtTheDome() {
    DomeCalendar c = make("block 1 of 0 west;block 1 of 0 west;block 1 of 1 west;", "river 20;");
    c.vein(1, false);
    settings(c, MASONS, 0);
    due("in the rock", c.can(), 0);
    c.weeks(1);
    row("on the way", ints(c.of(0, 4), c.can()), 2, 0);
    c.weeks(1);
    row("at the dome", ints(c.of(0, 4), c.of(1, 4), c.can()), 3, 2, 1);
    c.weeks(1);
    row("both", ints(c.of(1, 4), c.can()), 3, 3);
    settings(c, FROST, 1);
    due("FROST not asked", c.can(), 3);
    settings(c, MASONS, 1, FROST, 52);
    c.weeks(1);
    row("one is laid", ints(c.of(0, 4), c.can()), 4, 2);
    c.weeks(1);
    due("both are laid", c.can(), 0);
    due("no blocks", new DomeCalendar().can(), 0);
    DomeCalendar all = dome("block1of0west;".repeat(14));
    settings(all, MASONS, 0, CUTTERS, 7);
    all.weeks(2);
    due("all fourteen", all.can(), (1 << 14) - 1);
  }

  @Says("could be LAID now")
  static void promise22NeighboursAndBalance() {
    DomeCalendar c = dome("block 4 of 0 west;block 4 of 0 west after 0;block 5 of 0 east;block 1 of 0 east after 0 and 1;");
    settings(c, CUTTERS, 4, MASONS, 0);
    c.weeks(1);
    due("without neighbours", c.can(), 5);
    int[] due = {0, 1, 5, 5};
    for (int balance = 3; balance <= 6; balance++) {
      settings(c, BALANCE, balance);
      due("BALANCE " + balance, c.can(), due[balance - 3]);
    }
    settings(c, BALANCE, 999, MASONS, 1);
    c.weeks(1);
    due("one of two neighbours", c.can(), 6);
    c.weeks(1);
    due("both neighbours", c.can(), 12);
    // 8 of the west: 5 of the east leave 3, 1 leaves 7.
    int[] then = {0, 4, 4, 4, 4, 12};
    for (int balance = 2; balance <= 7; balance++) {
      settings(c, BALANCE, balance);
      due("with 8, BALANCE " + balance, c.can(), then[balance - 2]);
    }
  }

  // ---- promise 23: ways

  private static long factorial(int n) {
    return n < 2 ? 1 : n * factorial(n - 1);
  }

  @Says({"WAYS as told by how (0 .. 2); NONE for another one.", "WAYS: in how many orders all BLOCKS can be LAID from the first one on, each behind its NEIGHBOURS:"})
  static void promise23How() {
    DomeCalendar c = dome("block 1 of 0 west;block 1 of 0 east;block 1 of 0 west after 1;");
    due("free: 0 anywhere ahead of, between and behind 1, 2", c.ways(0), 3);
    due("west first: 2 can't be ahead of 1", c.ways(1), 0);
    for (int how : ints(-1, 3, 4, MIN, MAX)) {
      due("ways(" + how + ")", c.ways(how), NONE);
    }
    due("balance 999", c.ways(2), 3);
    for (int n : ints(0, 1, 2, 13, 14)) {
      DomeCalendar d = dome("block1of0west;".repeat(n));
      for (int how = 0; how < 3; how++) {
        due("ways(" + how + ") of " + n, d.ways(how), factorial(n));
      }
      due("ways(3) of " + n, d.ways(3), NONE);
    }
    // Small ones behind great ones: the rows of the former are not in the way.
    DomeCalendar e = dome("block1of0west;".repeat(14));
    due("14", e.ways(2), factorial(14));
    text(e, 0, blocks(3), 3);
    row("3", ints((int) e.ways(0), (int) e.ways(1), (int) e.ways(2)), 6, 6, 6);
  }

  @Says("each behind its NEIGHBOURS")
  static void promise23BehindItsNeighbours() {
    StringBuilder chain = new StringBuilder("block1of0west;");
    for (int b = 1; b < 14; b++) {
      chain.append("block1of0west after ").append(b - 1).append(';');
    }
    DomeCalendar c = dome(chain.toString());
    row("a chain of fourteen", ints((int) c.ways(0), (int) c.ways(1), (int) c.ways(2)), 1, 1, 1);
    text(c, 0, "block 1 of 0 west;block 1 of 0 west;block 1 of 0 west after 0 and 1;", 3);
    due("behind both", c.ways(0), 2);
    text(c, 0, "block 1 of 0 west;block 1 of 0 west after 0;block 1 of 0 west after 0;", 3);
    due("both behind one", c.ways(0), 2);
    c.weeks(2);
    due("from the first one on", c.ways(0), 2);
    text(c, 0, "block1of0west;" + "block1of0west after 0;".repeat(13), 14);
    due("thirteen behind one", c.ways(0), factorial(13));
  }

  @Says({"(0) BALANCE not asked, (1) so that all of the west are LAID ahead of all of the east (BALANCE not asked),"})
  static void promise23WestFirst() {
    DomeCalendar c = dome("block 1 of 0 west;block 9 of 0 east;block 1 of 0 west;block 9 of 0 east;");
    row("two and two", ints((int) c.ways(0), (int) c.ways(1)), 24, 4);
    settings(c, BALANCE, 0);
    row("BALANCE not asked", ints((int) c.ways(0), (int) c.ways(1), (int) c.ways(2)), 24, 4, 0);
    text(c, 0, "block 1 of 0 east;".repeat(3), 3);
    row("all of the east", ints((int) c.ways(0), (int) c.ways(1)), 6, 6);
    text(c, 0, "block 1 of 0 west;".repeat(3), 3);
    row("all of the west", ints((int) c.ways(0), (int) c.ways(1)), 6, 6);
    text(c, 0, "block 1 of 0 east;block 1 of 0 west;", 2);
    row("one each", ints((int) c.ways(0), (int) c.ways(1)), 2, 1);
    text(c, 0, "block 1 of 0 east;block 1 of 0 west after 0;", 2);
    row("the west behind the east", ints((int) c.ways(0), (int) c.ways(1)), 1, 0);
    text(c, 0, "block 1 of 0 west;block 1 of 0 east after 0;", 2);
    row("the east behind the west", ints((int) c.ways(0), (int) c.ways(1)), 1, 1);
    text(c, 0, "block1of0west;block1of0east;".repeat(7), 14);
    due("seven and seven", c.ways(1), factorial(7) * factorial(7));
  }

  @Says("(2) so that BALANCE holds behind each.")
  static void promise23BalanceBehindEach() {
    DomeCalendar c = dome("block 4 of 0 west;block 4 of 0 west;block 4 of 0 east;");
    int[][] due = {{0, 0}, {3, 0}, {4, 4}, {5, 4}, {7, 4}, {8, 6}, {9, 6}, {999, 6}};
    for (int[] d : due) {
      settings(c, BALANCE, d[0]);
      due("BALANCE " + d[0], c.ways(2), d[1]);
    }
    // The last one counts, too.
    text(c, 0, "block 2 of 0 west;block 3 of 0 west;", 2);
    settings(c, BALANCE, 4);
    due("5 in all, BALANCE 4", c.ways(2), 0);
    settings(c, BALANCE, 5);
    due("5 in all, BALANCE 5", c.ways(2), 2);
    text(c, 0, "block 1 of 0 west;block 1 of 0 east;", 2);
    settings(c, BALANCE, 0);
    due("0 in all, the first alone 1", c.ways(2), 0);
    settings(c, BALANCE, 1);
    due("0 in all, BALANCE 1", c.ways(2), 2);
    // One order alone: 3, 0, 1 apart.
    text(c, 0, "block 3 of 0 west;block 3 of 0 east after 0;block 1 of 0 west after 1;", 3);
    settings(c, BALANCE, 2);
    due("3, 0, 1, BALANCE 2", c.ways(2), 0);
    settings(c, BALANCE, 3);
    due("3, 0, 1, BALANCE 3", c.ways(2), 1);
    // And 1, -2, 1.
    text(c, 0, "block 1 of 0 west;block 3 of 0 east after 0;block 3 of 0 west after 1;", 3);
    settings(c, BALANCE, 1);
    due("1, 2, 1, BALANCE 1", c.ways(2), 0);
    settings(c, BALANCE, 2);
    due("1, 2, 1, BALANCE 2", c.ways(2), 1);
    text(c, 0, "block1of0west;block1of0east;".repeat(7), 14);
    settings(c, BALANCE, 1);
    // Pairs of one each, in either order: 7! * 7! * 2 ^ 7.
    due("seven and seven, BALANCE 1", c.ways(2), factorial(7) * factorial(7) * 128);
    text(c, 0, "block20of0west;".repeat(14), 14);
    settings(c, BALANCE, 279);
    due("280, BALANCE 279", c.ways(2), 0);
    settings(c, BALANCE, 280);
    due("280, BALANCE 280", c.ways(2), factorial(14));
  }

  // ---- promise 24: chain

  @Says({"CHAIN; NONE if there is none such.", "CHAIN of a BLOCK: how many BLOCKS the longest row has that ends with it, each one a NEIGHBOUR of the next one."})
  static void promise24Chain() {
    StringBuilder chain = new StringBuilder("block1of0west;");
    for (int b = 1; b < 14; b++) {
      chain.append("block1of0west after ").append(b - 1).append(';');
    }
    DomeCalendar c = dome(chain.toString());
    for (int b = 0; b < 14; b++) {
      due("chain(" + b + ")", c.chain(b), b + 1);
    }
    for (int b : ints(-1, 14, 15, MIN, MAX)) {
      due("chain(" + b + ")", c.chain(b), NONE);
    }
    c.weeks(5);
    due("laid or not", c.chain(13), 14);
    text(c, 0, blocks(2) + "block 1 of 0 west after 1;block 1 of 0 west after 0 and 2;block 1 of 0 west after 0;", 5);
    row("chains", ints(c.chain(0), c.chain(1), c.chain(2), c.chain(3), c.chain(4), c.chain(5)), 1, 1, 2, 3, 2, NONE);
    due("no blocks", new DomeCalendar().chain(0), NONE);
  }

  // ---- promise 25: took

  @Says("TOOK; NONE if THE BOOK has not both, or there is none such.")
  static void promise25NoneSuch() {
    DomeCalendar c = make(blocks(2), "river 20;bridge 9;river 10;");
    row("not cut", ints(c.took(0, 0), c.took(0, 1), c.took(0, 2)), NONE, NONE, NONE);
    c.weeks(1);
    row("cut", ints(c.took(0, 0), c.took(0, 1), c.took(0, 2)), NONE, NONE, NONE);
    c.weeks(1);
    row("over the first", ints(c.took(0, 0), c.took(0, 1), c.took(0, 2)), 1, NONE, NONE);
    c.weeks(1);
    row("over the second", ints(c.took(0, 0), c.took(0, 1), c.took(0, 2)), 1, 1, NONE);
    c.weeks(1);
    row("over the third", ints(c.took(0, 0), c.took(0, 1), c.took(0, 2)), 1, 1, 1);
    for (int k : ints(-1, 3, 4, 7, 8, MIN, MAX)) {
      due("took(0, " + k + ")", c.took(0, k), NONE);
    }
    for (int b : ints(-1, 2, 3, 14, MIN, MAX)) {
      due("took(" + b + ", 0)", c.took(b, 0), NONE);
    }
    DomeCalendar none = dome(blocks(1));
    none.weeks(1);
    due("no stretches", none.took(0, 0), NONE);
    due("no blocks", new DomeCalendar().took(0, 0), NONE);
  }

  @Says("TOOK: by THE BOOK, the latest WEEK in which a BLOCK was over STRETCH k, less the latest WEEK ahead of that line in which it was over STRETCH k - 1 (k 0: was CUT).")
  static void promise25TheLatest() {
    DomeCalendar c = make("block 1 of 0 west;", "river 10;river 20;");
    settings(c, RAIN, 1000, SPLIT, 1000, FROST, 52, MASONS, 0);
    c.weeks(3);
    row("over in 0 and 2", ints(c.took(0, 0), c.took(0, 1)), 0, 2);
    settings(c, FROST, 3);
    c.weeks(1);
    due("split in 3", c.of(0, 4), 0);
    settings(c, FROST, 52);
    text(c, 2, "haul 5;", 1);
    c.weeks(1);
    // Cut anew in 4, not over yet: the latest line over STRETCH 0 is of WEEK 0, and ahead of it is the CUT of WEEK 0.
    row("cut anew", ints(c.took(0, 0), c.took(0, 1)), 0, 2);
    c.weeks(1);
    // Over STRETCH 0 in 5; the latest over STRETCH 1 is of WEEK 2, and ahead of that line is the one of WEEK 0.
    row("over the first anew", ints(c.took(0, 0), c.took(0, 1)), 1, 2);
    c.weeks(4);
    row("over the second anew in 9", ints(c.took(0, 0), c.took(0, 1)), 1, 4);
  }

  @Says("by THE BOOK")
  static void promise25ByTheBook() {
    for (int lines = 196; lines <= 200; lines++) {
      DomeCalendar c = make("block 1 of 0 west;block 1 of 1 west;", "river 10;river 10;");
      c.vein(1, false);
      settings(c, CENTRE, 1);
      // Five lines behind WEEK 1, then one a WEEK: the first falls and is laid by turns.
      goTo(c, lines - 3);
      due("lines", c.look(7), lines);
      settings(c, CENTRE, 0);
      c.vein(1, true);
      boolean fallen = c.look(4) == 0;
      c.weeks(3);
      due("all laid", c.look(4), 2);
      // CUT, over STRETCH 0, the fallen one laid anew, over STRETCH 1: as far as there is room.
      due("STRETCH 0, from " + lines, c.took(1, 0), lines + 2 <= 200 ? 0 : NONE);
      due("STRETCH 1, from " + lines, c.took(1, 1), lines + (fallen ? 4 : 3) <= 200 ? 1 : NONE);
    }
  }

  // ---- promise 26: blame

  @Says("BLAME what 0 for what (NONE: nothing has WAITED), 1 how many WEEKS. NONE for another what.")
  static void promise26What() {
    DomeCalendar c = dome(blocks(2));
    row("nothing", ints(c.blame(0), c.blame(1)), NONE, 0);
    for (int what : ints(-1, 2, 3, 10, MIN, MAX)) {
      due("blame(" + what + ")", c.blame(what), NONE);
    }
    settings(c, CUTTERS, 2);
    c.weeks(1);
    row("one WEEK for masons", ints(c.blame(0), c.blame(1)), 3, 1);
    due("blame(2)", c.blame(2), NONE);
    row("no blocks", ints(new DomeCalendar().blame(0), new DomeCalendar().blame(1)), NONE, 0);
  }

  @Says("BLAME: what has WAITED most by all BLOCKS together (0 .. 4; of several the least), and how much.")
  static void promise26OfSeveralTheLeast() {
    // Two wait for oxen, then one of them waits so often for each of the others.
    DomeCalendar c = make("block 5 of 0 west;block 5 of 1 west;", "bridge 1;");
    settings(c, CUTTERS, 2, OXEN, 4);
    c.weeks(1);
    row("for oxen, both", ints(c.blame(0), c.blame(1)), 0, 2);
    settings(c, OXEN, 10, MASONS, 0);
    c.weeks(1);
    row("oxen 2, bridge 1, masons 1", ints(c.of(1, 11), c.of(0, 13), c.blame(0), c.blame(1)), 1, 1, 0, 2);
    c.weeks(1);
    row("oxen 2, masons 3", ints(c.blame(0), c.blame(1)), 3, 3);
    settings(c, FROST, 3);
    c.weeks(1);
    row("masons 3, frost 2", ints(c.blame(0), c.blame(1)), 3, 3);
    c.weeks(1);
    row("masons 3, frost 4", ints(c.blame(0), c.blame(1)), 2, 4);
    settings(c, FROST, 52, BALANCE, 4);
    c.weeks(2);
    row("frost 4, others 4: the least", ints(c.of(0, 14) + c.of(1, 14), c.blame(0), c.blame(1)), 4, 2, 4);
    c.weeks(1);
    row("others 6", ints(c.blame(0), c.blame(1)), 4, 6);
    DomeCalendar d = make("block 5 of 0 west;block 5 of 1 west;", "bridge 1;road 9;");
    settings(d, CUTTERS, 2);
    d.weeks(1);
    row("bridge 1", ints(d.blame(0), d.blame(1)), 1, 1);
    settings(d, OXEN, 5);
    d.weeks(1);
    row("bridge 1, oxen 1: the least", ints(d.of(1, 10), d.of(1, 11), d.blame(0), d.blame(1)), 1, 1, 0, 1);
  }

  @Says("by all BLOCKS together")
  static void promise26AllFourteen() {
    DomeCalendar c = make("block1of0west;".repeat(14), "road 9;");
    settings(c, CUTTERS, 9, OXEN, 0);
    c.weeks(1);
    row("nine", ints(c.blame(0), c.blame(1)), 0, 9);
    c.weeks(1);
    row("nine and fourteen", ints(c.blame(0), c.blame(1), c.of(13, 10)), 0, 23, 1);
  }

  // ---- promise 27: herd

  @Says("HERD what 0 OXEN, 1 GRASS, 2 MUD. NONE if one can't be, or another what.")
  static void promise27NAndWhat() {
    DomeCalendar c = new DomeCalendar();
    settings(c, GRASS, 200, GROW, 5, OXEN, 5);
    row("0", ints(c.herd(0, 0), c.herd(0, 1), c.herd(0, 2)), 5, 200, 0);
    row("1", ints(c.herd(1, 0), c.herd(1, 1), c.herd(1, 2)), 5, 200, 0);
    // 6 from WEEK 26 on, 7 from 52, 8 from 78: 26 + 52 + 22 * 3 are eaten beyond what grows in 100 WEEKS.
    row("99", ints(c.herd(99, 0), c.herd(99, 1)), 8, 200 - 26 - 52 - 63);
    row("100", ints(c.herd(100, 0), c.herd(100, 1), c.herd(100, 2)), 8, 200 - 26 - 52 - 66, 0);
    for (int n : ints(-1, 101, 102, MIN, MAX)) {
      for (int what = 0; what < 3; what++) {
        due("herd(" + n + ", " + what + ")", c.herd(n, what), NONE);
      }
    }
    for (int what : ints(-1, 3, 4, MIN, MAX)) {
      due("herd(0, " + what + ")", c.herd(0, what), NONE);
      due("herd(100, " + what + ")", c.herd(100, what), NONE);
    }
  }

  @Says("HERD behind n (0 .. 100) WEEKS: OXEN, GRASS, MUD.")
  static void promise27AsTheWeeksGoBy() {
    DomeCalendar c = make(blocks(2), "road 99;");
    settings(c, OXEN, 99, GRASS, 50, GROW, 9, RAIN, 1000);
    c.weeks(2);
    row("MUD", ints(c.herd(0, 2), c.herd(1, 2), c.herd(3, 2), c.herd(4, 2), c.herd(5, 2)), 4, 3, 1, 0, 0);
    settings(c, RAIN, 0);
    int[][] thought = new int[60][];
    for (int n = 0; n < 60; n++) {
      thought[n] = ints(c.herd(n, 0), c.herd(n, 1), c.herd(n, 2));
    }
    for (int n = 0; n < 60; n++) {
      row("behind " + n, thought[n], c.look(20), c.look(21), c.look(3));
      c.weeks(1);
    }
    DomeCalendar e = new DomeCalendar();
    settings(e, RAIN, 1000, OXEN, 0, GRASS, 9985);
    int[] before = all(e);
    row("dry: GROW once, 9999 at most", ints(e.herd(1, 1), e.herd(2, 1), e.herd(3, 1)), 9995, 9999, 9999);
    unchanged("herd", e, before, 0);
  }
}
