/** Promise 10 at its bounds: how many WEEKS go by, the weather, the herd, the cutting and the way. */
public final class BoundsOfWeeksTest extends Bounds {
  public static void main(String[] args) {
    run(BoundsOfWeeksTest.class);
  }

  // ---- how many

  @Says({"WEEKS go by (1 .. 60): how many BLOCKS were LAID in them.", "NONE, and nothing is done, if one can't be"})
  static void promise10From1To60() {
    DomeCalendar c = dome(blocks(14));
    settings(c, RAIN, 500);
    due("weeks(1)", c.weeks(1), 1);
    int[] before = all(c);
    for (int n : ints(0, -1, 61, 62, MIN, MAX)) {
      due("weeks(" + n + ")", c.weeks(n), NONE);
    }
    unchanged("a refused weeks", c, before, 1);
    due("weeks(2)", c.weeks(2), 2);
    due("WEEK", c.look(2), 3);
    due("weeks(59)", c.weeks(59), 11);
    due("WEEK", c.look(2), 62);
    due("weeks(60)", c.weeks(60), 0);
    due("WEEK", c.look(2), 122);
  }

  @Says("or WEEK would be above 9999.")
  static void promise10WeekNotAbove9999() {
    DomeCalendar c = dome(blocks(1));
    goTo(c, 9939);
    c.image(true);
    due("60 to 9999", c.weeks(60), 0);
    due("WEEK", c.look(2), 9999);
    int[] last = all(c);
    for (int n : ints(1, 2, 60)) {
      due("weeks(" + n + ") in 9999", c.weeks(n), NONE);
    }
    unchanged("weeks in 9999", c, last, 5);
    c.image(false);
    due("1 to 9940", c.weeks(1), 0);
    int[] before = all(c);
    due("60 to 10000", c.weeks(60), NONE);
    unchanged("weeks to 10000", c, before, 1);
    due("59 to 9999", c.weeks(59), 0);
    due("WEEK", c.look(2), 9999);
    c.undo();
    due("2 to 10000", c.weeks(2), NONE);
    due("WEEK", c.look(2), 9998);
    due("1 to 9999", c.weeks(1), 0);
    due("WEEK", c.look(2), 9999);
  }

  @Says("how many BLOCKS were LAID in them")
  static void promise10HowManyWereLaid() {
    DomeCalendar c = dome(blocks(14));
    settings(c, CUTTERS, 9, MASONS, 9);
    due("nine", c.weeks(1), 9);
    due("five", c.weeks(1), 5);
    due("none", c.weeks(1), 0);
    DomeCalendar d = dome(blocks(14));
    due("all in one call", d.weeks(14), 14);
    DomeCalendar e = dome(blocks(14));
    due("all but one", e.weeks(13), 13);
    DomeCalendar none = new DomeCalendar();
    due("none are told", none.weeks(60), 0);
  }

  // ---- (a) rain, mud, floods

  private static DomeCalendar withMud(int mud) {
    DomeCalendar c = new DomeCalendar();
    settings(c, RAIN, 1000, OXEN, 0);
    c.weeks((mud + 1) / 2);
    settings(c, RAIN, 0);
    if (c.look(3) > mud) {
      c.weeks(1);
    }
    due("MUD", c.look(3), mud);
    return c;
  }

  @Says("(a) If RAIN is above 0, a DRAW of 1000: below RAIN it is wet:")
  static void promise10BelowRainItIsWet() {
    for (int d : ints(0, 1, 500, 998, 999)) {
      for (int rain = Math.max(1, d - 1); rain <= Math.min(1000, d + 2); rain++) {
        DomeCalendar c = new DomeCalendar();
        int state = stateWith(d);
        c.state(state);
        settings(c, RAIN, rain, OXEN, 0, GRASS, 0);
        c.weeks(1);
        boolean wet = d < rain;
        row("DRAW " + d + ", RAIN " + rain + ": MUD, GRASS", looks(c, 3, 21), wet ? 2 : 0, wet ? 20 : 10);
        due("one DRAW", c.look(8), next(state));
      }
    }
  }

  @Says("If RAIN is above 0, a DRAW of 1000")
  static void promise10WithoutRainNoDraw() {
    DomeCalendar c = withMud(4);
    c.state(77);
    c.weeks(1);
    row("RAIN 0: STATE, MUD", looks(c, 8, 3), 77, 3);
    settings(c, RAIN, 1);
    c.state(stateWith(1));
    int state = c.look(8);
    c.weeks(1);
    row("RAIN 1: STATE, MUD", looks(c, 8, 3), next(state), 2);
  }

  @Says("MUD 2 more (9 at most);")
  static void promise10MudNineAtMost() {
    int[] then = {2, 3, 4, 5, 6, 7, 8, 9, 9, 9};
    for (int mud = 0; mud <= 9; mud++) {
      DomeCalendar c = withMud(mud);
      settings(c, RAIN, 1000);
      c.weeks(1);
      due("MUD " + mud + ", wet", c.look(3), then[mud]);
    }
  }

  @Says("else dry: MUD one less (0 at least; without that DRAW, too).")
  static void promise10MudNullAtLeast() {
    for (int mud = 0; mud <= 9; mud++) {
      DomeCalendar c = withMud(mud);
      c.weeks(1);
      due("MUD " + mud + ", no rain", c.look(3), Math.max(0, mud - 1));
      DomeCalendar d = withMud(mud);
      settings(d, RAIN, 500);
      d.state(stateWith(500));
      d.weeks(1);
      due("MUD " + mud + ", not below RAIN", d.look(3), Math.max(0, mud - 1));
    }
  }

  @Says("If FLOOD is above 0, a DRAW of 1000: below FLOOD there is a flood.")
  static void promise10BelowFloodThereIsAFlood() {
    for (int d : ints(0, 1, 500, 998, 999)) {
      for (int flood = Math.max(0, d - 1); flood <= Math.min(1000, d + 2); flood++) {
        DomeCalendar c = make(blocks(1), "river 99;road 99;");
        int state = stateWith(d);
        c.state(state);
        settings(c, FLOOD, flood);
        c.weeks(1);
        due("DRAW " + d + ", FLOOD " + flood, c.of(0, 5), d < flood ? 1 : 0);
        due("DRAWS", c.look(8), flood == 0 ? state : next(state));
      }
    }
  }

  @Says("If FLOOD is above 0, a DRAW of 1000")
  static void promise10FloodBehindRain() {
    for (int[] d : new int[][] {{100, 900}, {900, 100}, {499, 500}, {500, 499}}) {
      DomeCalendar c = make(blocks(1), "river 99;road 99;");
      int state = stateWith(d);
      c.state(state);
      settings(c, RAIN, 500, FLOOD, 500);
      c.weeks(1);
      row("MUD, STRETCH", ints(c.look(3), c.of(0, 5)), d[0] < 500 ? 2 : 0, d[1] < 500 ? 1 : 0);
      due("two DRAWS", c.look(8), next(next(state)));
    }
  }

  // ---- (b) grass

  private static int[] herdBehind(int oxen, int grass, int grow, boolean wet) {
    DomeCalendar c = new DomeCalendar();
    settings(c, OXEN, oxen, GRASS, grass, GROW, grow, RAIN, wet ? 1000 : 0);
    c.weeks(1);
    return looks(c, 20, 21);
  }

  @Says("(b) GRASS is GROW more, twice that when it is wet (9999 at most);")
  static void promise10Grass9999AtMost() {
    row("9998", herdBehind(0, 9988, 10, false), 0, 9998);
    row("9999", herdBehind(0, 9989, 10, false), 0, 9999);
    row("not 10000", herdBehind(0, 9990, 10, false), 0, 9999);
    row("wet: 9998", herdBehind(0, 9900, 49, true), 0, 9998);
    row("wet: not 10000", herdBehind(0, 9900, 50, true), 0, 9999);
    row("the most of all", herdBehind(0, 9999, 99, true), 0, 9999);
    row("held ahead of the eating", herdBehind(10, 9999, 99, false), 10, 9989);
    row("GROW 0", herdBehind(0, 5, 0, false), 0, 5);
    row("wet, GROW 0", herdBehind(0, 5, 0, true), 0, 5);
    row("GROW 99", herdBehind(0, 0, 99, false), 0, 99);
    row("wet, GROW 99", herdBehind(0, 0, 99, true), 0, 198);
  }

  @Says("then OXEN eat as much as they are: if it is not enough, GRASS is 0, and of those that got nothing half, upwards, die.")
  static void promise10JustEnoughGrass() {
    row("one more than enough", herdBehind(10, 11, 0, false), 10, 1);
    row("just enough", herdBehind(10, 10, 0, false), 10, 0);
    row("one got nothing: one dies", herdBehind(10, 9, 0, false), 9, 0);
    row("two: one", herdBehind(10, 8, 0, false), 9, 0);
    row("three: two", herdBehind(10, 7, 0, false), 8, 0);
    row("four: two", herdBehind(10, 6, 0, false), 8, 0);
    row("nine: five", herdBehind(10, 1, 0, false), 5, 0);
    row("all ten: five", herdBehind(10, 0, 0, false), 5, 0);
    row("by what grew", herdBehind(10, 0, 9, false), 9, 0);
    row("by what grew, wet", herdBehind(10, 0, 5, true), 10, 0);
    row("by what grew, dry", herdBehind(10, 0, 5, false), 7, 0);
    row("the last one", herdBehind(1, 0, 0, false), 0, 0);
    row("two: one is left", herdBehind(2, 0, 0, false), 1, 0);
    row("none eat", herdBehind(0, 0, 0, false), 0, 0);
    row("99: 50 die", herdBehind(99, 0, 0, false), 49, 0);
    row("99, one fed", herdBehind(99, 1, 0, false), 50, 0);
    row("99 fed", herdBehind(99, 99, 0, false), 99, 0);
    row("98 fed", herdBehind(99, 98, 0, false), 98, 0);
  }

  // ---- (c) cutting

  @Says("(c) By ORDER, as many as CUTTERS: who is in the ROCK and whose VEIN is open is CUT.")
  static void promise10AsManyAsCutters() {
    for (int cutters = 0; cutters <= 9; cutters++) {
      for (int n : ints(1, 2, 9, 10, 14)) {
        DomeCalendar c = make(blocks(n), "river 99;");
        settings(c, CUTTERS, cutters);
        c.weeks(1);
        due(cutters + " of " + n, c.stretch(0, 2), Math.min(cutters, n));
        c.weeks(1);
        due(cutters + " of " + n + " in two weeks", c.stretch(0, 2), Math.min(2 * cutters, n));
      }
    }
  }

  @Says("who is in the ROCK and whose VEIN is open is CUT")
  static void promise10OpenVeinsByOrder() {
    DomeCalendar c = make("block 1 of 0 west;block 1 of 1 west;block 1 of 2 west;block 1 of 3 west;", "river 99;");
    c.rank(3, 0);
    c.vein(0, false);
    settings(c, CUTTERS, 2);
    c.weeks(1);
    row("3 and 1: the shut one takes no cutter", where(c), 0, 2, 0, 2);
    line(c, 0, 0, 3, 0, 0);
    line(c, 1, 0, 1, 0, 0);
    c.vein(1, false);
    c.vein(3, false);
    c.weeks(1);
    row("who is cut goes on without its vein", where(c), 0, 2, 2, 2);
    row("DONE", ints(c.of(1, 6), c.of(2, 6), c.of(3, 6)), 20, 10, 20);
    c.weeks(1);
    due("shut: in the rock", c.of(0, 4), 0);
    c.vein(0, true);
    c.weeks(1);
    due("open: cut", c.of(0, 4), 2);
  }

  // ---- (d) the way

  @Says({"(d) By ORDER, who is CUT or on the way: CUT: it comes on STRETCH 0, nothing DONE (without STRETCHES: at THE DOME), "
      + "and goes on at once."})
  static void promise10WithAndWithoutStretches() {
    DomeCalendar c = dome(blocks(1));
    settings(c, MASONS, 0, OXEN, 0);
    c.weeks(1);
    row("at the dome: where, STRETCH, DONE", ints(c.of(0, 4), c.of(0, 5), c.of(0, 6)), 3, NONE, NONE);
    line(c, 0, 0, 0, 0, 0);
    line(c, 1, 0, 0, 2, 0);
    due("lines", c.look(7), 2);
    DomeCalendar d = make(blocks(1), "river 99;");
    d.weeks(1);
    row("it goes on at once", ints(d.of(0, 4), d.of(0, 5), d.of(0, 6)), 2, 0, 10);
    DomeCalendar e = make(blocks(1), "road 99;");
    settings(e, OXEN, 0);
    e.weeks(1);
    row("on the way, though it waits", ints(e.of(0, 4), e.of(0, 5), e.of(0, 6), e.of(0, 10)), 2, 0, 0, 1);
  }

  @Says("A team: SIZE, on a hill twice SIZE, on a river none, of those OXEN that no one ahead of it has this WEEK; "
      + "if there are not so many it waits (0).")
  static void promise10JustATeam() {
    for (int size : ints(1, 2, 10, 19, 20)) {
      for (int sort = 0; sort < 4; sort++) {
        int team = sort == 2 ? 0 : sort == 1 ? 2 * size : size;
        for (int oxen = Math.max(0, team - 1); oxen <= team + 1; oxen++) {
          DomeCalendar c = make("block " + size + " of 0 west;", new String[] {"road 9;", "hill 9;", "river 9;", "bridge 9;"}[sort]);
          settings(c, OXEN, oxen, GRASS, 9999, MASONS, 0);
          c.weeks(1);
          String what = "SIZE " + size + ", sort " + sort + ", OXEN " + oxen;
          due(what, c.of(0, 4), oxen < team ? 2 : 3);
          due(what + ", waited", c.of(0, 10), oxen < team ? 1 : 0);
        }
      }
    }
  }

  @Says("of those OXEN that no one ahead of it has this WEEK")
  static void promise10OxenThatNoOneAheadHas() {
    for (int oxen = 8; oxen <= 10; oxen++) {
      DomeCalendar c = make("block 4 of 0 west;block 5 of 0 west;", "road 99;");
      settings(c, CUTTERS, 2, OXEN, oxen);
      c.weeks(1);
      row("OXEN " + oxen, ints(c.of(0, 6), c.of(1, 6), c.of(1, 10)), 10, oxen < 9 ? 0 : 10, oxen < 9 ? 1 : 0);
      c.rank(1, 0);
      c.weeks(1);
      row("the other ahead", ints(c.of(0, 6), c.of(0, 10)), oxen < 9 ? 10 : 20, oxen < 9 ? 1 : 0);
    }
    // Who is over its stretch has its team for the rest of the WEEK.
    DomeCalendar d = make("block 4 of 0 west;block 5 of 0 west;", "road 10;bridge 1;");
    settings(d, CUTTERS, 2, OXEN, 8);
    d.weeks(1);
    row("over, and none left", ints(d.of(0, 5), d.of(1, 5), d.of(1, 10)), 1, 0, 1);
    // By what is left when the dead are gone.
    DomeCalendar e = make("block 5 of 0 west;", "road 99;");
    settings(e, OXEN, 6, GRASS, 2, GROW, 0);
    e.weeks(1);
    row("four are left", ints(e.look(20), e.of(0, 6), e.of(0, 10)), 4, 0, 1);
  }

  @Says("on a river none")
  static void promise10OnARiverNone() {
    for (int oxen = 4; oxen <= 6; oxen++) {
      DomeCalendar c = make("block 3 of 0 west;block 5 of 1 west;", "road 10;river 99;");
      c.vein(1, false);
      c.weeks(1);
      c.vein(1, true);
      settings(c, OXEN, oxen);
      c.weeks(1);
      // Who is on the river neither takes nor brings an ox.
      row("OXEN " + oxen, ints(c.of(0, 5), c.of(0, 6), c.of(1, 5), c.of(1, 10)), 1, 10, oxen < 5 ? 0 : 1, oxen < 5 ? 1 : 0);
    }
  }

  @Says("Who waits has no team.")
  static void promise10WhoWaitsHasNoTeam() {
    DomeCalendar c = make("block 9 of 0 west;block 8 of 0 west;", "road 99;");
    settings(c, CUTTERS, 2, OXEN, 8);
    c.weeks(1);
    row("the first waits for oxen, the second has them", ints(c.of(0, 6), c.of(1, 6), c.of(0, 10), c.of(1, 10)), 0, 10, 1, 0);
    DomeCalendar d = make("block 4 of 0 west;block 4 of 0 west;block 4 of 0 west;", "bridge 1;road 99;");
    settings(d, CUTTERS, 3);
    d.weeks(1);
    d.rank(2, 0);
    d.rank(1, 0);
    settings(d, OXEN, 8);
    due("the first is on the road", d.of(0, 5), 1);
    d.weeks(1);
    row("1 goes over the bridge, 2 waits for it without a team, 0 has the rest", ints(d.of(1, 5), d.of(2, 11), d.of(0, 6)), 1, 2, 10);
    d.weeks(1);
    row("1 and 2 go, 0 waits", ints(d.of(1, 6), d.of(2, 5), d.of(0, 10)), 10, 1, 1);
  }

  @Says({"At a bridge: if ROOM others went over it this WEEK already, it waits (1), else it is over it.", "ROOM 1 .. 9"})
  static void promise10RoomOfABridge() {
    for (int room : ints(1, 2, 8, 9)) {
      DomeCalendar c = make("block1of0west;".repeat(14), "river 9;bridge " + room + ";river 99;");
      settings(c, CUTTERS, 9, OXEN, 99, GRASS, 9999);
      c.weeks(1);
      due("nine at the bridge", c.stretch(1, 2), 9);
      settings(c, CUTTERS, 0);
      c.weeks(1);
      row("ROOM " + room + ": over it, not over it", ints(c.stretch(2, 2), c.stretch(1, 2)), room, 9 - room);
      for (int b = 0; b < 9; b++) {
        due("waited (1) of " + b, c.of(b, 11), b < room ? 0 : 1);
        due("waited (0) of " + b, c.of(b, 10), 0);
      }
      c.weeks(1);
      due("each WEEK anew", c.stretch(2, 2), Math.min(9, 2 * room));
    }
  }

  @Says("if ROOM others went over it this WEEK already")
  static void promise10EachBridgeByItself() {
    DomeCalendar c = make(blocks(4), "bridge 1;bridge 1;river 99;");
    settings(c, CUTTERS, 2);
    c.weeks(1);
    row("one over the first", ints(c.stretch(0, 2), c.stretch(1, 2)), 1, 1);
    settings(c, CUTTERS, 0);
    c.weeks(1);
    row("one over each", ints(c.stretch(0, 2), c.stretch(1, 2), c.stretch(2, 2)), 0, 1, 1);
    due("who was over waited no more", c.of(1, 11), 1);
    // Oxen are asked for ahead of the bridge.
    DomeCalendar d = make("block 2 of 0 west;block 3 of 0 west;", "bridge 1;");
    settings(d, CUTTERS, 2, OXEN, 4);
    d.weeks(1);
    waited(d, 1, 1, 0, 0, 0, 0);
    settings(d, OXEN, 5);
    text(d, 1, "bridge 1;", 1);
    d.weeks(1);
    waited(d, 1, 0, 1, 0, 0, 0);
  }

  @Says("Else DONE is more by what THE LAW tells; when it is the length, or more, it is over.")
  static void promise10DoneIsTheLength() {
    for (String sort : new String[] {"road", "hill", "river"}) {
      for (int length : ints(1, 2, 50, 98, 99)) {
        for (int haul = Math.max(0, length - 1); haul <= Math.min(99, length + 1); haul++) {
          DomeCalendar c = make(blocks(1), sort + " " + length + ";road 9;");
          text(c, 2, "haul " + haul + ";", 1);
          c.weeks(1);
          boolean over = haul >= length;
          row(sort + " " + length + ", haul " + haul, ints(c.of(0, 5), c.of(0, 6)), over ? 1 : 0, over ? 0 : haul);
        }
      }
    }
    DomeCalendar c = make(blocks(1), "road 20;road 9;");
    c.weeks(1);
    row("10 of 20", ints(c.of(0, 5), c.of(0, 6)), 0, 10);
    c.weeks(1);
    row("20 of 20", ints(c.of(0, 5), c.of(0, 6)), 1, 0);
  }

  @Says({"Who is over a STRETCH comes on the next one (nothing DONE, not on this WEEK), or at THE DOME.",
      "Where it is: 0 in the ROCK (at first), 1 CUT, 2 on the way: a STRETCH, how much is DONE of it, 3 at THE DOME, 4 LAID."})
  static void promise10OneStretchAWeek() {
    DomeCalendar c = make(blocks(1), "road 1;hill 1;river 1;bridge 1;road 1;hill 1;river 1;bridge 1;");
    due("in the rock", c.of(0, 4), 0);
    for (int k = 0; k < 7; k++) {
      due("not laid", c.weeks(1), 0);
      row("on the next one", ints(c.of(0, 4), c.of(0, 5), c.of(0, 6)), 2, k + 1, 0);
      row("how many are on it", ints(c.stretch(k, 2), c.stretch(k + 1, 2)), 0, 1);
    }
    due("over the last, at the dome and laid in one WEEK", c.weeks(1), 1);
    row("laid", ints(c.of(0, 4), c.of(0, 5), c.of(0, 6)), 4, NONE, NONE);
    due("lines: cut, eight, come, laid", c.look(7), 11);
    for (int k = 0; k < 8; k++) {
      line(c, 1 + k, k, 0, 1, k);
    }
    line(c, 9, 7, 0, 2, 0);
    line(c, 10, 7, 0, 3, 0);
  }

  @Says("In a flood all that are on a river behind this are over it (by ORDER).")
  static void promise10FloodsBringWhatIsOnTheRivers() {
    DomeCalendar c = make(blocks(3), "river 99;river 99;road 99;");
    settings(c, CUTTERS, 2, FLOOD, 1000);
    c.rank(1, 0);
    c.weeks(1);
    // Just come on it, and over it; not over the next one, too.
    row("over one", ints(c.of(0, 5), c.of(0, 6), c.of(1, 5), c.of(1, 6), c.of(2, 4)), 1, 0, 1, 0, 0);
    line(c, 2, 0, 1, 1, 0);
    line(c, 3, 0, 0, 1, 0);
    c.weeks(1);
    row("over the next", ints(c.of(0, 5), c.of(1, 5), c.of(2, 5)), 2, 2, 1);
    c.weeks(1);
    row("not over a road", ints(c.of(0, 5), c.of(0, 6), c.of(1, 5), c.of(2, 5)), 2, 10, 2, 2);
    DomeCalendar d = make(blocks(1), "river 10;river 99;");
    settings(d, FLOOD, 1000);
    due("hauled over one, brought over the next, laid", d.weeks(1), 1);
    DomeCalendar e = make(blocks(1), "hill 99;");
    settings(e, FLOOD, 1000);
    e.weeks(1);
    row("a hill", ints(e.of(0, 5), e.of(0, 6)), 0, 10);
    DomeCalendar all = make("block1of0west;".repeat(14), "river 99;road 99;");
    settings(all, CUTTERS, 9, FLOOD, 1000);
    all.weeks(1);
    due("nine of fourteen", all.stretch(1, 2), 9);
    all.weeks(1);
    due("all fourteen", all.stretch(1, 2), 14);
    DomeCalendar f = make(blocks(2), "bridge 1;river 99;");
    settings(f, CUTTERS, 2, FLOOD, 1000);
    f.weeks(1);
    row("over the bridge and the river, the other at the bridge", where(f), 4, 2);
    due("a bridge is no river", f.of(1, 5), 0);
  }
}
