/** Promise 8 at its bounds: THE LAW OF HAULING and A PLAN as they are read, and how far THE LAW hauls. */
public final class BoundsOfLawTest extends Bounds {
  /** 2147483647, the greatest int. */
  private static final String GREATEST = "9999*9999*21+4790*9999+8416";
  /** The least int, by wrapping. */
  private static final String LEAST = "4096*4096*128";

  public static void main(String[] args) {
    run(BoundsOfLawTest.class);
  }

  /** How much is DONE of a road of 99 behind a week; NONE if it is over. */
  private static int hauled(String law) {
    DomeCalendar c = make("block 3 of 0 west;", "road 99;");
    due("law " + law, tell(c, 2, law) != NONE, true);
    c.weeks(1);
    return c.of(0, 6);
  }

  private static void holds(String condition, boolean is) {
    due(condition, hauled("haul 2 when " + condition + ";haul 1;"), is ? 2 : 1);
    due("not " + condition, hauled("haul 2 when not(" + condition + ");haul 1;"), is ? 1 : 2);
  }

  // ---- how THE LAW is read

  @Says("2 THE LAW OF HAULING = {haul E [when B] ;}.")
  static void promise8LinesWithAndWithoutWhen() {
    fine(2, "", 0);
    fine(2, "haul 1;", 1);
    fine(2, "haul 1 when 1=1;", 1);
    fine(2, "haul 1 when 1=1;haul 2;", 2);
    faulty(2, "haul when 1=1;", 1, 5);
    faulty(2, "haul 1 1=1;", 1, 7);
    faulty(2, "haul 1 when 1=1 when 1=1;", 1, 16);
    faulty(2, ";", 1, 0);
  }

  @Says({"B = A {or A}.", "A = C {and C}."})
  static void promise8OrAndAnd() {
    holds("1=1", true);
    holds("1=2", false);
    holds("1=2 or 1=1", true);
    holds("1=2 or 1=2", false);
    holds("1=2 or 1=2 or 1=1", true);
    holds("1=1 and 1=1", true);
    holds("1=1 and 1=2", false);
    holds("1=1 and 1=1 and 1=2", false);
    // or holds less together than and.
    holds("1=1 or 1=1 and 1=2", true);
    holds("1=2 and 1=1 or 1=1", true);
    holds("1=2 and 1=1 or 1=1 and 1=2", false);
    holds("1=2 or 1=1 and 1=1 or 1=2", true);
    faulty(2, "haul 1 when or 1=1;", 1, 12);
    faulty(2, "haul 1 when 1=1 or;", 1, 18);
    faulty(2, "haul 1 when and 1=1;", 1, 12);
    faulty(2, "haul 1 when 1=1 and;", 1, 19);
  }

  @Says("C = E (< | = | >) E | not C | ( B ).")
  static void promise8Comparisons() {
    int[][] pairs = {{1, 2}, {2, 2}, {3, 2}};
    for (int[] p : pairs) {
      holds(p[0] + "<" + p[1], p[0] < p[1]);
      holds(p[0] + "=" + p[1], p[0] == p[1]);
      holds(p[0] + ">" + p[1], p[0] > p[1]);
    }
    holds("not 1=2", true);
    holds("not not 1=2", false);
    // not takes the one C behind it.
    holds("not 1=2 and 1=2", false);
    holds("not 1=1 or 1=1", true);
    holds("not(1=1 or 1=1)", false);
    holds("(1=1 or 1=1) and 1=2", false);
    faulty(2, "haul 1 when 1;", 1, 13);
    faulty(2, "haul 1 when 1=;", 1, 14);
    faulty(2, "haul 1 when 1=1=1;", 1, 15);
    faulty(2, "haul 1 when ();", 1, 13);
    faulty(2, "haul 1 when (1=1;", 1, 16);
    faulty(2, "haul 1 when 1=1);", 1, 15);
    faulty(2, "haul 1 when (1)=1;", 1, 14);
    faulty(2, "haul 1 when not;", 1, 15);
  }

  @Says({"E = T {(+ | -) T}.", "T = U {* U | / NUMBER}.", "U = NUMBER | sort | size | mud | wet | left | week | grease | oxen."})
  static void promise8SumsAndParts() {
    due("a NUMBER", hauled("haul 7;"), 7);
    due("+", hauled("haul 7+2;"), 9);
    due("- from the left", hauled("haul 20-5-3;"), 12);
    due("- and +", hauled("haul 20-5+3;"), 18);
    due("*", hauled("haul 2*3*4;"), 24);
    due("/ from the left", hauled("haul 80/4/2;"), 10);
    due("/ and *", hauled("haul 7/2*2;"), 6);
    due("* holds more together", hauled("haul 1+2*3;"), 7);
    due("/ holds more together", hauled("haul 9-8/4;"), 7);
    faulty(2, "haul +1;", 1, 5);
    faulty(2, "haul 1+;", 1, 7);
    faulty(2, "haul 1*;", 1, 7);
    faulty(2, "haul 1/;", 1, 7);
    faulty(2, "haul 9/size;", 1, 7);
    faulty(2, "haul (1);", 1, 5);
    faulty(2, "haul 1 2;", 1, 7);
    for (String name : new String[] {"sort", "size", "mud", "wet", "left", "week", "grease", "oxen"}) {
      fine(2, "haul " + name + ";", 1);
      faulty(2, "haul " + name + "s;", 1, 5);
      faulty(2, "haul " + name.substring(1) + ";", 1, 5);
    }
  }

  @Says("3 A PLAN = {STEP}. STEP = wait N ; | rank N to N ; | hire N ; | sell N ; | open N ; | shut N ; | cutters N ; | masons N ;"
      + " | again N ( {STEP} )")
  static void promise8EachStep() {
    fine(3, "", 0);
    for (String step : new String[] {"wait 1;", "rank 1 to 0;", "hire 1;", "sell 1;", "open 1;", "shut 1;", "cutters 1;",
      "masons 1;", "again 1(wait 1;)"}) {
      fine(3, step, 1);
      fine(3, step + step, 2);
      faulty(3, step.substring(0, step.length() - 1), 1, step.length() - 1);
      faulty(3, step + ";", 1, step.length());
      faulty(3, step + ")", 1, step.length());
    }
    fine(3, "again 2()", 0);
    fine(3, "again 2(again 2())", 0);
    fine(3, "again 2(wait 1;hire 1;)", 4);
    faulty(3, "rank 1;", 1, 6);
    faulty(3, "rank 1 to;", 1, 9);
    faulty(3, "wait;", 1, 4);
    faulty(3, "again(wait 1;)", 1, 5);
    faulty(3, "again 1 wait 1;", 1, 8);
    faulty(3, "again 1(wait 1;", 1, 15);
    faulty(3, "(wait 1;)", 1, 0);
  }

  // ---- how far it hauls

  @Says("Ints, which wrap; / goes towards 0.")
  static void promise8IntsWrap() {
    holds(GREATEST + ">0", true);
    holds(GREATEST + "-1>0", true);
    holds(GREATEST + "+1<0", true);
    holds(GREATEST + "+1=" + LEAST, true);
    holds("0-9999*9999*21-4790*9999-8416-1<0", true);
    holds("0-9999*9999*21-4790*9999-8416-1=" + LEAST, true);
    holds("0-9999*9999*21-4790*9999-8416-2>0", true);
    holds("4096*4096*64>0", true);
    holds(LEAST + "<0", true);
    holds("4096*4096*256=0", true);
    // As they are, not by what is between them.
    holds(GREATEST + ">" + LEAST, true);
    holds(LEAST + "<" + GREATEST, true);
  }

  @Says("/ goes towards 0.")
  static void promise8PartsGoTowardsNull() {
    due("7 / 2", hauled("haul 7/2;"), 3);
    due("8 / 2", hauled("haul 8/2;"), 4);
    due("1 / 2", hauled("haul 1/2;"), 0);
    due("5 / 9999", hauled("haul 5/9999;"), 0);
    // 947 * 7319 * 1859 wraps to -1, 2841 * 7319 * 1859 to -3.
    holds("947*7319*1859=0-1", true);
    holds("947*7319*1859/1=0-1", true);
    holds("947*7319*1859/2=0", true);
    holds("2841*7319*1859/2=0-1", true);
    holds("2841*7319*1859/3=0-1", true);
    holds("2841*7319*1859/4=0", true);
    holds(LEAST + "/1=" + LEAST, true);
    holds(LEAST + "/3=0-9999*7158*10-9*9999-9471", true);
  }

  @Says("held to 0 .. 99")
  static void promise8HeldTo0To99() {
    due("far below", hauled("haul " + LEAST + ";"), 0);
    due("0 - 1", hauled("haul 0-1;"), 0);
    due("0", hauled("haul 0;"), 0);
    due("1", hauled("haul 1;"), 1);
    due("98", hauled("haul 98;"), 98);
    due("99", hauled("haul 99;"), NONE);
    due("100", hauled("haul 100;"), NONE);
    due("far above", hauled("haul " + GREATEST + ";"), NONE);
    // Unheld it would wrap.
    DomeCalendar c = make("block 3 of 0 west;", "road 99;road 9;");
    text(c, 2, "haul 1 when week=0;haul " + GREATEST + ";", 2);
    c.weeks(1);
    row("one", ints(c.of(0, 5), c.of(0, 6)), 0, 1);
    c.weeks(1);
    row("over the first", ints(c.of(0, 5), c.of(0, 6)), 1, 0);
    DomeCalendar d = make("block 3 of 0 west;", "road 99;");
    text(d, 2, "haul 5 when week=0;haul 0-5;", 2);
    d.weeks(2);
    due("never back", d.of(0, 6), 5);
  }

  @Says("A BLOCK on the way goes on in a WEEK by E of the first line whose B is so, or that has none (none: 10)")
  static void promise8TheFirstLineThatIsSo() {
    due("no line", hauled(""), 10);
    due("one that is not so", hauled("haul 3 when 1=2;"), 10);
    due("one that is so", hauled("haul 3 when 1=1;"), 3);
    due("one that has none", hauled("haul 3;"), 3);
    due("the first of two", hauled("haul 3;haul 4;"), 3);
    due("the second of two", hauled("haul 3 when 1=2;haul 4;"), 4);
    due("the second by its own", hauled("haul 3 when 1=2;haul 4 when 1=1;haul 5;"), 4);
    due("the last of sixteen", hauled("haul 3 when 1=2;".repeat(15) + "haul 4;"), 4);
    due("none of sixteen", hauled("haul 3 when 1=2;".repeat(16)), 10);
  }

  @Says({"sort: of the STRETCH; size;", "left: what is left of the STRETCH; week; grease; oxen: OXEN (all there are)."})
  static void promise8WhatTheNamesAre() {
    int[][] due = {{0, 50}, {1, 40}, {2, 30}};
    for (int[] d : due) {
      DomeCalendar c = make("block 3 of 0 west;", new String[] {"road ", "hill ", "river "}[d[0]] + d[1] + ";");
      text(c, 2, "haul sort*20+5;", 1);
      c.weeks(1);
      due("sort " + d[0], c.of(0, 6) == NONE ? d[1] : c.of(0, 6), Math.min(d[1], d[0] * 20 + 5));
    }
    for (int size : ints(1, 20)) {
      DomeCalendar c = make("block " + size + " of 0 west;", "road 99;");
      settings(c, OXEN, 99, GRASS, 9999);
      text(c, 2, "haul size*4;", 1);
      c.weeks(1);
      due("size", c.of(0, 6), size * 4);
    }
    DomeCalendar c = make("block 3 of 0 west;block 3 of 0 west;", "road 99;");
    settings(c, CUTTERS, 2);
    text(c, 2, "haul left-90;", 1);
    c.weeks(1);
    due("left 99", c.of(0, 6), 9);
    c.weeks(1);
    due("left 90", c.of(0, 6), 9);
    text(c, 2, "haul left;", 1);
    c.weeks(1);
    due("all that is left", c.of(0, 4), 4);
    due("of both", c.of(1, 4), 3);
    for (int grease : ints(0, 9)) {
      DomeCalendar g = make("block 3 of 0 west;", "road 99;");
      settings(g, GREASE, grease);
      text(g, 2, "haul 1+grease*10;", 1);
      g.weeks(1);
      due("grease", g.of(0, 6), 1 + grease * 10);
    }
  }

  @Says("oxen: OXEN (all there are)")
  static void promise8AllOxenThereAre() {
    DomeCalendar c = make("block 5 of 0 west;block 5 of 0 west;block 5 of 0 west;", "road 99;");
    settings(c, CUTTERS, 3, OXEN, 20, GRASS, 14, GROW, 0);
    text(c, 2, "haul oxen;", 1);
    c.weeks(1);
    // Six got nothing and three died ahead of the hauling; two teams leave seven free.
    row("17 each", ints(c.look(20), c.of(0, 6), c.of(1, 6), c.of(2, 6)), 17, 17, 17, 17);
  }

  @Says({"mud; wet: 1 in a WEEK with rain, else 0;", "week; grease;"})
  static void promise8MudWetAndWeek() {
    DomeCalendar c = make("block 3 of 0 west;", "road 99;");
    text(c, 2, "haul mud*10+wet*3;", 1);
    settings(c, RAIN, 1000);
    c.weeks(1);
    due("wet, MUD 2 by this rain", c.of(0, 6), 23);
    settings(c, RAIN, 0);
    c.weeks(1);
    due("dry, MUD 1", c.of(0, 6), 33);
    c.weeks(1);
    due("dry, MUD 0", c.of(0, 6), 33);
    DomeCalendar d = make("block 3 of 0 west;", "road 99;");
    text(d, 2, "haul week;", 1);
    d.weeks(1);
    due("WEEK 0", d.of(0, 6), 0);
    d.weeks(1);
    due("WEEK 1", d.of(0, 6), 1);
    d.weeks(1);
    due("WEEK 2", d.of(0, 6), 3);
    DomeCalendar e = make("block 3 of 0 west;", "river 99;");
    text(e, 2, "haul 0;", 1);
    goTo(e, 53);
    text(e, 2, "haul week;", 1);
    e.weeks(1);
    due("WEEK 53, not of the year", e.of(0, 6), 53);
  }
}
