/** Promise 10 at its bounds: laying, frost, balance, splitting, falling, calves, THE BOOK and who WAITED. */
public final class BoundsOfLayingTest extends Bounds {
  public static void main(String[] args) {
    run(BoundsOfLayingTest.class);
  }

  // ---- (e) frost

  /** How many are laid in the told WEEK, if one is at THE DOME then. */
  private static int laidIn(int week, int frost) {
    DomeCalendar c = dome(blocks(1));
    settings(c, FROST, frost, CUTTERS, 0);
    goTo(c, week);
    settings(c, CUTTERS, 1);
    int laid = c.weeks(1);
    waited(c, 0, 0, 0, laid == 1 ? 0 : 1, 0, 0);
    return laid;
  }

  @Says({"(e) If WEEK modulo 52 is FROST or above, nothing is laid: who could be waits (2)", "FROST 1 .. 52 (52 at first)"})
  static void promise10FrostOrAbove() {
    for (int frost : ints(1, 2, 26, 50, 51)) {
      due("the WEEK ahead of FROST " + frost, laidIn(frost - 1, frost), 1);
      due("the WEEK of FROST " + frost, laidIn(frost, frost), 0);
      due("the WEEK behind FROST " + frost, laidIn(frost + 1, frost), frost == 51 ? 1 : 0);
      due("WEEK 51, FROST " + frost, laidIn(51, frost), 0);
      due("WEEK 52, FROST " + frost, laidIn(52, frost), 1);
      due("a year on, ahead of FROST " + frost, laidIn(51 + frost, frost), 1);
      due("a year on, FROST " + frost, laidIn(52 + frost, frost), 0);
    }
    due("FROST 52, WEEK 50", laidIn(50, 52), 1);
    due("FROST 52, WEEK 51", laidIn(51, 52), 1);
    due("FROST 52, WEEK 52", laidIn(52, 52), 1);
    due("FROST 52, WEEK 103", laidIn(103, 52), 1);
  }

  @Says("who could be waits (2), who is at THE DOME and could not waits (4)")
  static void promise10WhoWaitsInFrost() {
    DomeCalendar c = dome("block 4 of 0 west;block 1 of 0 west after 0;block 5 of 0 east;");
    settings(c, CUTTERS, 3, FROST, 1, BALANCE, 4, MASONS, 0);
    c.weeks(1);
    waited(c, 0, 0, 0, 0, 1, 0);
    settings(c, MASONS, 9);
    c.weeks(1);
    waited(c, 0, 0, 0, 1, 1, 0);
    waited(c, 1, 0, 0, 0, 0, 2);
    waited(c, 2, 0, 0, 0, 0, 2);
    settings(c, BALANCE, 5);
    c.weeks(1);
    waited(c, 0, 0, 0, 2, 1, 0);
    waited(c, 1, 0, 0, 0, 0, 3);
    waited(c, 2, 0, 0, 1, 0, 2);
    row("nothing is laid", where(c), 3, 3, 3);
  }

  // ---- (e) laying

  @Says("Else by ORDER, as many as MASONS: who is at THE DOME, whose NEIGHBOURS are all LAID,")
  static void promise10AsManyAsMasons() {
    for (int masons = 0; masons <= 9; masons++) {
      for (int n : ints(1, 2, 8, 9)) {
        DomeCalendar c = dome(blocks(n));
        settings(c, CUTTERS, 9, MASONS, masons);
        int laid = Math.min(masons, n);
        due(masons + " masons, " + n + " blocks", c.weeks(1), laid);
        for (int b = 0; b < n; b++) {
          due("block " + b, c.of(b, 4), b < laid ? 4 : 3);
          waited(c, b, 0, 0, 0, b < laid ? 0 : 1, 0);
        }
      }
    }
    DomeCalendar c = dome(blocks(3));
    settings(c, CUTTERS, 3);
    c.rank(2, 0);
    due("the first of ORDER", c.weeks(1), 1);
    row("where", where(c), 3, 3, 4);
  }

  @Says("whose NEIGHBOURS are all LAID")
  static void promise10AllNeighbours() {
    DomeCalendar c = dome("block 1 of 0 west;block 1 of 0 west;block 1 of 0 west after 0 and 1;");
    settings(c, CUTTERS, 3, MASONS, 1);
    c.rank(2, 0);
    due("none of both", c.weeks(1), 1);
    row("where", where(c), 4, 3, 3);
    due("one of both", c.weeks(1), 1);
    row("where", where(c), 4, 4, 3);
    due("both", c.weeks(1), 1);
    row("where", where(c), 4, 4, 4);
    DomeCalendar d = dome("block 1 of 0 west;block 1 of 0 west after 0;");
    d.rank(1, 0);
    due("its neighbour is in the rock", d.weeks(1), 0);
    waited(d, 1, 0, 0, 0, 0, 1);
  }

  @Says("and with whom the SIZES of all LAID ones of the west and of the east are not more apart than BALANCE, is LAID")
  static void promise10NotMoreApartThanBalance() {
    for (String half : new String[] {"west", "east"}) {
      for (int balance = 4; balance <= 6; balance++) {
        DomeCalendar c = dome("block 5 of 0 " + half + ";");
        settings(c, BALANCE, balance);
        due("5 of the " + half + ", BALANCE " + balance, c.weeks(1), balance < 5 ? 0 : 1);
        waited(c, 0, 0, 0, 0, 0, balance < 5 ? 1 : 0);
        due("apart", c.look(11), balance < 5 ? 0 : half.equals("west") ? 5 : -5);
      }
    }
    // With 7 of the west: 3 more are 10, 16 of the east are 9 the other way.
    for (int balance = 8; balance <= 11; balance++) {
      DomeCalendar c = dome("block 7 of 0 west;block 3 of 0 west;block 16 of 0 east;");
      settings(c, CUTTERS, 3);
      c.weeks(1);
      settings(c, BALANCE, balance);
      due("can, BALANCE " + balance, c.can(), balance < 9 ? 0 : balance < 10 ? 4 : 6);
      due("BALANCE " + balance, c.weeks(1), balance < 9 ? 0 : 1);
      due("apart", c.look(11), balance < 9 ? 7 : balance < 10 ? -9 : 10);
    }
    DomeCalendar none = dome("block 1 of 0 west;block 1 of 0 east;");
    settings(none, BALANCE, 0, CUTTERS, 2, MASONS, 9);
    due("BALANCE 0: never one alone", none.weeks(5), 0);
    settings(none, BALANCE, 1);
    due("BALANCE 1", none.weeks(1), 2);
    due("apart", none.look(11), 0);
    DomeCalendar most = dome("block 20 of 0 west;".repeat(14));
    settings(most, CUTTERS, 9, MASONS, 9, BALANCE, 279);
    due("280 of the west, BALANCE 279", most.weeks(9), 13);
    settings(most, BALANCE, 280);
    due("280 of the west, BALANCE 280", most.weeks(1), 1);
    due("apart", most.look(11), 280);
  }

  @Says("(gone through once; each by what is LAID then).")
  static void promise10GoneThroughOnce() {
    String chain = "block 1 of 0 west;block 1 of 0 west after 0;block 1 of 0 west after 1;";
    DomeCalendar c = dome(chain);
    settings(c, CUTTERS, 3, MASONS, 3);
    due("each by what is laid then", c.weeks(1), 3);
    DomeCalendar d = dome(chain);
    settings(d, CUTTERS, 3, MASONS, 3);
    d.rank(0, 2);
    d.rank(2, 0);
    order(d, 2, 1, 0);
    due("gone through once", d.weeks(1), 1);
    due("and once", d.weeks(1), 1);
    due("and once", d.weeks(1), 1);
    // By what the halves weigh then.
    DomeCalendar e = dome("block 4 of 0 west;block 4 of 0 west;block 4 of 0 east;");
    settings(e, CUTTERS, 3, MASONS, 3, BALANCE, 4);
    due("the second is passed over, the third is not", e.weeks(1), 2);
    row("where", where(e), 4, 3, 4);
  }

  @Says("Who could be, behind that, waits (3); who is at THE DOME and could not waits (4).")
  static void promise10WhoCouldBeWaits() {
    DomeCalendar c = dome("block 1 of 0 west;block 1 of 0 west;block 1 of 0 west after 1;block 1 of 0 west after 0;");
    settings(c, CUTTERS, 4);
    due("one mason", c.weeks(1), 1);
    waited(c, 0, 0, 0, 0, 0, 0);
    waited(c, 1, 0, 0, 0, 1, 0);
    waited(c, 2, 0, 0, 0, 0, 1);
    waited(c, 3, 0, 0, 0, 1, 0);
    // Who is not at the dome waits for none of these.
    DomeCalendar d = make(blocks(2), "road 20;");
    settings(d, MASONS, 0);
    d.weeks(1);
    waited(d, 0, 0, 0, 0, 0, 0);
    waited(d, 1, 0, 0, 0, 0, 0);
    d.weeks(1);
    waited(d, 0, 0, 0, 0, 1, 0);
    waited(d, 1, 0, 0, 0, 0, 0);
  }

  @Says("SINCE: the WEEK in which the first of those that are LAID now was laid, or none.")
  static void promise10Since() {
    DomeCalendar c = dome(blocks(3));
    due("none", c.look(6), NONE);
    settings(c, MASONS, 0, CUTTERS, 3);
    c.weeks(4);
    due("none", c.look(6), NONE);
    settings(c, MASONS, 1);
    c.weeks(1);
    due("the first in WEEK 4", c.look(6), 4);
    c.weeks(2);
    due("the first of three", c.look(6), 4);
    c.weeks(9);
    due("when all are laid", c.look(6), 4);
    DomeCalendar d = dome(blocks(1));
    d.weeks(1);
    due("WEEK 0 is one", d.look(6), 0);
  }

  // ---- (f) splitting

  /** One at THE DOME in WEEK 1, by which it could split; answers where it is behind that. */
  private static DomeCalendar frozen(int rain, int frost, int split) {
    DomeCalendar c = dome("block 1 of 2 west;");
    settings(c, MASONS, 0);
    c.weeks(1);
    settings(c, RAIN, rain, FROST, frost, SPLIT, split);
    return c;
  }

  @Says("(f) If it is wet, WEEK modulo 52 is FROST or above and SPLIT is above 0:")
  static void promise10WetFrostAndSplit() {
    int state = stateWith(0, 0, 0);
    int[][] cases = {{1, 1, 1, 1}, {0, 1, 1, 0}, {1, 2, 1, 0}, {1, 1, 0, 0}};
    for (int[] t : cases) {
      DomeCalendar c = frozen(t[0], t[1], t[2]);
      c.state(state);
      c.weeks(1);
      due("RAIN " + t[0] + ", FROST " + t[1] + ", SPLIT " + t[2], c.of(0, 4), t[3] == 1 ? 0 : 3);
      due("VEIN", c.of(0, 1), t[3] == 1 ? 3 : 2);
      due("DRAWS", c.look(8), t[3] == 1 ? next(next(state)) : t[0] == 1 ? next(state) : state);
    }
    DomeCalendar dry = frozen(500, 1, 1000);
    dry.state(stateWith(500));
    dry.weeks(1);
    row("dry by its DRAW: where, STATE", ints(dry.of(0, 4), dry.look(8)), 3, next(stateWith(500)));
    // The last WEEK of the year, and the first of the next one.
    DomeCalendar c = dome("block 1 of 2 west;");
    settings(c, MASONS, 0);
    goTo(c, 51);
    c.image(true);
    settings(c, RAIN, 1000, FROST, 51, SPLIT, 1000);
    c.weeks(1);
    due("WEEK 51, FROST 51", c.of(0, 4), 0);
    c.image(false);
    settings(c, RAIN, 1000, FROST, 52, SPLIT, 1000);
    c.weeks(1);
    due("WEEK 51, FROST 52", c.of(0, 4), 3);
    c.image(false);
    c.weeks(1);
    settings(c, RAIN, 1000, FROST, 1, SPLIT, 1000);
    c.weeks(1);
    due("WEEK 52, FROST 1", c.of(0, 4), 3);
    c.weeks(1);
    due("WEEK 53, FROST 1", c.of(0, 4), 0);
  }

  @Says("a DRAW of 1000: below SPLIT it is in the ROCK again, its VEIN the next one (3: 0).")
  static void promise10BelowSplit() {
    for (int d : ints(0, 1, 500, 998, 999)) {
      for (int split = Math.max(1, d - 1); split <= Math.min(1000, d + 2); split++) {
        DomeCalendar c = frozen(1000, 1, split);
        c.state(stateWith(7, d));
        c.weeks(1);
        due("DRAW " + d + ", SPLIT " + split, c.of(0, 4), d < split ? 0 : 3);
      }
    }
    for (int vein = 0; vein < 4; vein++) {
      DomeCalendar c = dome("block 1 of " + vein + " west;");
      settings(c, MASONS, 0, RAIN, 1000, SPLIT, 1000, FROST, 1);
      c.weeks(1);
      due("VEIN", c.of(0, 1), vein);
      for (int i = 1; i <= 5; i++) {
        c.weeks(1);
        row("the next VEIN", ints(c.of(0, 4), c.of(0, 1)), 0, (vein + i) % 4);
        line(c, c.look(7) - 1, i, 0, 4, 0);
      }
    }
  }

  @Says("BLOCK by BLOCK by number, who is CUT, on the way or at THE DOME")
  static void promise10WhoCanSplit() {
    // In the rock, on the way, at the dome, laid.
    String dome = "block 1 of 0 west;block 9 of 1 west;block 1 of 1 west;block 1 of 1 west;";
    DomeCalendar c = make(dome, "river 9;road 20;river 9;");
    settings(c, CUTTERS, 9, OXEN, 3, FROST, 3);
    c.vein(0, false);
    c.weeks(2);
    text(c, 2, "haul 20;", 1);
    c.weeks(1);
    c.vein(1, false);
    settings(c, FROST, 1, MASONS, 0);
    c.weeks(1);
    row("where", where(c), 0, 2, 3, 3);
    settings(c, RAIN, 1000, SPLIT, 500);
    int state = 0;
    while (drawn(next(state)) >= 500 || drawn(next(next(state))) < 500 || drawn(next(next(next(state)))) >= 500) {
      state++;
    }
    c.state(state);
    c.rank(3, 0);
    c.weeks(1);
    row("by number: the first and the third of those that can", where(c), 0, 0, 3, 0);
    row("VEINS", ints(c.of(0, 1), c.of(1, 1), c.of(2, 1), c.of(3, 1)), 0, 2, 1, 2);
    due("four DRAWS", c.look(8), next(next(next(next(state)))));
    int last = c.look(7);
    line(c, last - 2, 4, 1, 4, 0);
    line(c, last - 1, 4, 3, 4, 0);
    settings(c, FROST, 52, MASONS, 1);
    c.vein(2, false);
    due("one is laid", c.weeks(1), 1);
    settings(c, FROST, 1, SPLIT, 1000);
    int before = c.look(8);
    c.weeks(1);
    row("who is laid or in the rock can't", where(c), 0, 0, 4, 0);
    due("the rain's DRAW alone", c.look(8), next(before));
  }

  @Says("it is in the ROCK again, its VEIN the next one (3: 0)")
  static void promise10SplitIsCutByItsNewVein() {
    DomeCalendar c = make("block 1 of 3 west;", "river 99;");
    settings(c, RAIN, 1000, SPLIT, 1000, FROST, 1);
    c.weeks(1);
    due("DONE", c.of(0, 6), 10);
    c.vein(0, false);
    c.weeks(1);
    row("split: where, VEIN, STRETCH, DONE", ints(c.of(0, 4), c.of(0, 1), c.of(0, 5), c.of(0, 6)), 0, 0, NONE, NONE);
    c.weeks(1);
    due("its new VEIN is shut", c.of(0, 4), 0);
    c.vein(0, true);
    settings(c, SPLIT, 0);
    c.weeks(1);
    row("from the first on, nothing DONE", ints(c.of(0, 4), c.of(0, 5), c.of(0, 6)), 2, 0, 10);
  }

  // ---- (g) falling

  @Says("(g) If some are LAID, not all, CENTRE is above 0 and WEEK less SINCE is CENTRE or above: it falls:")
  static void promise10CentreOrAbove() {
    for (int centre : ints(1, 2, 26, 519, 520)) {
      DomeCalendar c = dome("block 1 of 0 west;block 1 of 1 west;");
      c.vein(1, false);
      settings(c, CENTRE, centre, CUTTERS, 0);
      c.weeks(3);
      settings(c, CUTTERS, 1);
      c.weeks(1);
      row("LAID in WEEK 3: SINCE, FALLS", looks(c, 6, 5), 3, 0);
      goTo(c, 3 + centre);
      row("the WEEK ahead of CENTRE " + centre, looks(c, 4, 5, 6), 1, 0, 3);
      c.weeks(1);
      row("CENTRE " + centre, looks(c, 4, 5, 6), 0, 1, NONE);
      line(c, c.look(7) - 1, 3 + centre, 0, 5, 0);
      c.weeks(1);
      row("laid anew", looks(c, 4, 5, 6), 1, 1, 4 + centre);
    }
    DomeCalendar never = dome("block 1 of 0 west;block 1 of 1 west;");
    never.vein(1, false);
    goTo(never, 600);
    row("CENTRE 0: LAID, FALLS", looks(never, 4, 5), 1, 0);
    settings(never, CENTRE, 520);
    never.weeks(1);
    row("above CENTRE: LAID, FALLS", looks(never, 4, 5), 0, 1);
  }

  @Says("If some are LAID, not all")
  static void promise10SomeNotAll() {
    DomeCalendar c = dome(blocks(2));
    settings(c, CENTRE, 1, CUTTERS, 2, MASONS, 0);
    c.weeks(5);
    row("none LAID: FALLS", looks(c, 4, 5), 0, 0);
    settings(c, MASONS, 1);
    c.weeks(1);
    row("one LAID: FALLS", looks(c, 4, 5), 1, 0);
    c.weeks(9);
    row("the last one in the WEEK in which it would fall: LAID, FALLS", looks(c, 4, 5, 6), 2, 0, 5);
    DomeCalendar d = dome("block 1 of 0 west;block 1 of 0 west;block 1 of 1 west;");
    d.vein(1, false);
    settings(d, CENTRE, 1, CUTTERS, 2);
    d.weeks(2);
    row("two of three: LAID, FALLS", looks(d, 4, 5), 0, 1);
  }

  @Says("all LAID ones are at THE DOME, FALLS one more, SINCE none.")
  static void promise10WhatFalls() {
    DomeCalendar c = dome("block 3 of 0 west;block 1 of 0 east;block 1 of 0 east;block 1 of 1 west;");
    c.vein(1, false);
    settings(c, CENTRE, 2, CUTTERS, 3, MASONS, 1);
    c.rank(2, 0);
    c.weeks(2);
    row("ahead: LAID, FALLS, SINCE, apart", looks(c, 4, 5, 6, 11), 2, 0, 0, 2);
    due("the third is laid, and all fall", c.weeks(1), 1);
    row("where", where(c), 3, 3, 3, 0);
    row("behind: LAID, FALLS, SINCE, apart", looks(c, 4, 5, 6, 11), 0, 1, NONE, 0);
    int last = c.look(7);
    row("three lines", ints(c.book(last - 3, 2), c.book(last - 2, 2), c.book(last - 1, 2)), 5, 5, 5);
    c.weeks(3);
    row("once more", looks(c, 4, 5, 6), 0, 2, NONE);
    due("who fell could be laid at once", c.can(), 7);
  }

  // ---- (h) the WEEK and calves

  @Says({"(h) WEEK is one more; if it is a multiple of 26, a fifth of OXEN more (99 at most).", "Quotients go downwards."})
  static void promise10AFifthOfOxen() {
    int[][] due = {{0, 0}, {1, 1}, {4, 4}, {5, 6}, {9, 10}, {10, 12}, {14, 16}, {15, 18}, {81, 97}, {82, 98}, {83, 99}, {84, 99},
      {98, 99}, {99, 99}};
    for (int[] d : due) {
      DomeCalendar c = new DomeCalendar();
      goTo(c, 25);
      settings(c, OXEN, d[0], GRASS, 9999);
      c.weeks(1);
      row("WEEK, OXEN from " + d[0], looks(c, 2, 20), 26, d[1]);
    }
  }

  @Says("if it is a multiple of 26")
  static void promise10MultiplesOf26() {
    for (int week : ints(1, 24, 25, 26, 27, 51, 52, 53, 78, 104, 9983, 9984, 9985)) {
      DomeCalendar c = new DomeCalendar();
      goTo(c, week - 1);
      settings(c, OXEN, 10, GRASS, 9999);
      c.weeks(1);
      row("WEEK, OXEN", looks(c, 2, 20), week, week % 26 == 0 ? 12 : 10);
    }
  }

  @Says("A WEEK, one thing behind the other.")
  static void promise10OneThingBehindTheOther() {
    // Rain, grass, cutting, hauling and laying in one WEEK, each by what the one ahead of it left.
    DomeCalendar c = make("block 8 of 0 west;", "road 45;");
    settings(c, RAIN, 1000, OXEN, 10, GRASS, 0, GROW, 3);
    text(c, 2, "haul mud*10+wet*5+oxen*2+4;", 1);
    due("MUD 2, wet, 8 oxen: 45", c.weeks(1), 1);
    due("OXEN", c.look(20), 8);
    // One waits for the thaw, then it splits; one that is laid falls when the splitting is over.
    DomeCalendar d = dome("block 1 of 0 west;block 1 of 0 west;");
    settings(d, CUTTERS, 2, CENTRE, 1, FROST, 1, SPLIT, 1000);
    d.weeks(1);
    settings(d, RAIN, 1000);
    int state = d.look(8);
    d.weeks(1);
    row("fallen, split", where(d), 3, 0);
    waited(d, 1, 0, 0, 1, 1, 0);
    due("rain and one that can split", d.look(8), next(next(state)));
    line(d, 5, 1, 1, 4, 0);
    line(d, 6, 1, 0, 5, 0);
    // Calves come behind all else: they haul in the WEEK behind theirs.
    DomeCalendar e = make("block 12 of 0 west;", "road 10;");
    goTo(e, 25);
    due("WEEK 25", e.weeks(1), 0);
    row("WEEK, OXEN, waited", ints(e.look(2), e.look(20), e.of(0, 10)), 26, 12, 26);
    due("WEEK 26", e.weeks(1), 1);
  }

  // ---- THE BOOK

  @Says({"THE BOOK (200 lines; no more then)", "WEEK, BLOCK, what: 0 CUT, 1 over a STRETCH, 2 at THE DOME, 3 LAID, 4 split, 5 fell;"})
  static void promise10TwoHundredLines() {
    DomeCalendar c = dome("block 1 of 0 west;block 1 of 1 west;");
    c.vein(1, false);
    settings(c, CENTRE, 1);
    // Three lines in WEEK 0, then one a WEEK: it falls and is laid by turns.
    goTo(c, 196);
    due("198 lines", c.look(7), 198);
    c.weeks(1);
    due("199 lines", c.look(7), 199);
    due("no 200th", c.book(199, 0), NONE);
    c.weeks(1);
    due("200 lines", c.look(7), 200);
    line(c, 199, 197, 0, 5, 0);
    c.weeks(1);
    due("no more", c.look(7), 200);
    due("no 201st", c.book(200, 0), NONE);
    line(c, 199, 197, 0, 5, 0);
    line(c, 0, 0, 0, 0, 0);
    due("it goes on without lines", c.look(4), 1);
    c.vein(1, true);
    c.weeks(1);
    due("all are laid", c.look(4), 2);
    due("no more", c.look(7), 200);
  }

  @Says("(200 lines; no more then)")
  static void promise10TheBookIsFullInAWeek() {
    DomeCalendar c = dome("block 1 of 0 west;block 1 of 0 west;block 1 of 0 west;block 1 of 1 west;");
    c.vein(1, false);
    settings(c, CENTRE, 1, CUTTERS, 3, MASONS, 3);
    // Nine lines in WEEK 0, then three a WEEK.
    goTo(c, 64);
    due("198 lines", c.look(7), 198);
    c.weeks(1);
    due("two of three", c.look(7), 200);
    line(c, 198, 64, 0, 3, 0);
    line(c, 199, 64, 1, 3, 0);
    due("all three were laid", c.look(4), 3);
  }

  @Says({"of 1 which STRETCH (else 0).", "(Who is over the last STRETCH: 1, then 2.)"})
  static void promise10LinesOfTheBook() {
    DomeCalendar c = make("block 1 of 3 west;block 1 of 1 west;", "river 9;bridge 9;");
    c.vein(1, false);
    settings(c, CENTRE, 2);
    c.weeks(4);
    settings(c, MASONS, 0, RAIN, 1000, SPLIT, 1000, FROST, 1);
    c.weeks(1);
    int[][] due = {{0, 0, 0, 0}, {0, 0, 1, 0}, {1, 0, 1, 1}, {1, 0, 2, 0}, {1, 0, 3, 0}, {3, 0, 5, 0}, {4, 0, 4, 0}};
    for (int i = 0; i < due.length; i++) {
      line(c, i, due[i][0], due[i][1], due[i][2], due[i][3]);
    }
    due("lines", c.look(7), due.length);
  }

  @Says("WAITED of a BLOCK for 0 .. 4: so many WEEKS.")
  static void promise10WaitedForEach() {
    DomeCalendar c = make("block 5 of 0 west;block 5 of 1 west;", "road 9;bridge 1;");
    settings(c, CUTTERS, 2, OXEN, 4);
    c.weeks(3);
    waited(c, 0, 3, 0, 0, 0, 0);
    waited(c, 1, 3, 0, 0, 0, 0);
    settings(c, OXEN, 10, MASONS, 0);
    c.weeks(2);
    waited(c, 0, 3, 0, 0, 1, 0);
    waited(c, 1, 3, 1, 0, 0, 0);
    settings(c, BALANCE, 9);
    c.weeks(1);
    waited(c, 0, 3, 0, 0, 2, 0);
    waited(c, 1, 3, 1, 0, 1, 0);
    settings(c, FROST, 6);
    c.weeks(2);
    waited(c, 0, 3, 0, 2, 2, 0);
    waited(c, 1, 3, 1, 2, 1, 0);
    settings(c, FROST, 52, MASONS, 9);
    due("one is laid", c.weeks(1), 1);
    waited(c, 0, 3, 0, 2, 2, 0);
    waited(c, 1, 3, 1, 2, 1, 1);
    c.weeks(2);
    waited(c, 1, 3, 1, 2, 1, 3);
    row("no more than these", ints(c.of(0, 9), c.of(0, 15)), -2, -2);
  }
}
