/** Promises 13 to 16 and 32 at their bounds: what is asked of BLOCKS, STRETCHES, ORDER, THE BOOK, and all else. */
public final class BoundsOfLooksTest extends Bounds {
  public static void main(String[] args) {
    run(BoundsOfLooksTest.class);
  }

  // ---- promise 13: of

  @Says({"Of a BLOCK what 0 SIZE, 1 VEIN, 2 1 if it is of the east, else 0, 3 NEIGHBOURS (a set), 4 where it is, 5 STRETCH, 6 DONE",
      "7 its place in ORDER, 10 + k WAITED for k."})
  static void promise13What() {
    DomeCalendar c = make("block 7 of 3 east;block 2 of 1 west after 0;", "road 30;");
    c.rank(1, 0);
    c.set(OXEN, 6);
    c.set(CUTTERS, 2);
    c.weeks(2);
    int[] first = {7, 3, 1, 0, 2, 0, 0, 1, -2, -2, 2, 0, 0, 0, 0};
    int[] second = {2, 1, 0, 1, 2, 0, 20, 0, -2, -2, 0, 0, 0, 0, 0};
    for (int what = 0; what < 15; what++) {
      due("of(0, " + what + ")", c.of(0, what), first[what]);
      due("of(1, " + what + ")", c.of(1, what), second[what]);
    }
  }

  @Says("NONE - 1 if there is none such, or another what.")
  static void promise13NoneSuch() {
    for (int n : ints(0, 1, 2, 13, 14)) {
      DomeCalendar c = dome("block1of0west;".repeat(n));
      for (int what = 0; what < 15; what++) {
        boolean is = n > 0 && what != 8 && what != 9;
        due("the first of " + n + ", what " + what, c.of(0, what) != -2, is);
        due("the last of " + n + ", what " + what, c.of(n - 1, what) != -2, is);
        due("behind the last of " + n + ", what " + what, c.of(n, what), -2);
        due("ahead of the first of " + n, c.of(-1, what), -2);
      }
      for (int block : ints(14, 15, MIN, MAX)) {
        due("of(" + block + ", 0) of " + n, c.of(block, 0), -2);
      }
      for (int what : ints(-1, 8, 9, 15, 16, 20, MIN, MAX)) {
        due("of(0, " + what + ")", c.of(0, what), -2);
      }
    }
  }

  @Says("(5, 6: NONE, if it is not on the way)")
  static void promise13NotOnTheWay() {
    DomeCalendar c = make("block 1 of 0 west;", "river 10;river 20;");
    row("in the rock", ints(c.of(0, 4), c.of(0, 5), c.of(0, 6)), 0, NONE, NONE);
    c.set(MASONS, 0);
    c.weeks(1);
    row("on the way", ints(c.of(0, 4), c.of(0, 5), c.of(0, 6)), 2, 1, 0);
    c.weeks(1);
    row("on the way", ints(c.of(0, 4), c.of(0, 5), c.of(0, 6)), 2, 1, 10);
    c.weeks(1);
    row("at the dome", ints(c.of(0, 4), c.of(0, 5), c.of(0, 6)), 3, NONE, NONE);
    c.set(MASONS, 1);
    c.weeks(1);
    row("laid", ints(c.of(0, 4), c.of(0, 5), c.of(0, 6)), 4, NONE, NONE);
    text(c, 1, "river 9;", 1);
    row("in the rock again", ints(c.of(0, 4), c.of(0, 5), c.of(0, 6)), 0, NONE, NONE);
  }

  // ---- promise 14: stretch

  @Says("Of a STRETCH what 0 its sort, 1 its length or ROOM, 2 how many are on it. NONE if there is none such, or another what.")
  static void promise14NoneSuch() {
    for (int n : ints(0, 1, 2, 7, 8)) {
      DomeCalendar c = make(blocks(1), "bridge 9;".repeat(n));
      for (int what = 0; what < 3; what++) {
        int due = n == 0 ? NONE : ints(3, 9, 0)[what];
        due("the first of " + n, c.stretch(0, what), due);
        due("the last of " + n, c.stretch(n - 1, what), due);
        due("behind the last of " + n, c.stretch(n, what), NONE);
        due("ahead of the first of " + n, c.stretch(-1, what), NONE);
      }
      for (int k : ints(8, 9, MIN, MAX)) {
        due("stretch(" + k + ", 0)", c.stretch(k, 0), NONE);
      }
      for (int what : ints(-1, 3, 4, MIN, MAX)) {
        due("stretch(0, " + what + ")", c.stretch(0, what), NONE);
      }
    }
  }

  @Says("2 how many are on it")
  static void promise14HowManyAreOnIt() {
    DomeCalendar c = make("block1of0west;".repeat(14), "river 50;river 50;");
    c.set(CUTTERS, 7);
    due("none", c.stretch(0, 2), 0);
    c.weeks(1);
    row("seven", ints(c.stretch(0, 2), c.stretch(1, 2)), 7, 0);
    c.weeks(1);
    row("fourteen", ints(c.stretch(0, 2), c.stretch(1, 2)), 14, 0);
    c.weeks(3);
    row("seven each", ints(c.stretch(0, 2), c.stretch(1, 2)), 7, 7);
    c.weeks(1);
    row("all on the next", ints(c.stretch(0, 2), c.stretch(1, 2)), 0, 14);
    c.weeks(5);
    row("none", ints(c.stretch(0, 2), c.stretch(1, 2)), 0, 0);
  }

  // ---- promise 15: order

  @Says("The BLOCK at a place of ORDER; NONE if there is none such.")
  static void promise15NoneSuch() {
    for (int n : ints(0, 1, 2, 13, 14)) {
      DomeCalendar c = dome("block1of0west;".repeat(n));
      due("order(0) of " + n, c.order(0), n == 0 ? NONE : 0);
      due("the last of " + n, c.order(n - 1), n == 0 ? NONE : n - 1);
      due("behind the last of " + n, c.order(n), NONE);
      for (int place : ints(-1, 14, 15, MIN, MAX)) {
        due("order(" + place + ")", c.order(place), NONE);
      }
      if (n > 1) {
        c.rank(n - 1, 0);
        due("the first place", c.order(0), n - 1);
        due("the last place", c.order(n - 1), n - 2);
      }
    }
  }

  // ---- promise 16: book

  @Says("Of line i of THE BOOK what 0 WEEK, 1 BLOCK, 2 what, 3 which STRETCH. NONE if there is none such, or another what.")
  static void promise16NoneSuch() {
    DomeCalendar c = make("block 1 of 0 west;block 1 of 0 west;", "river 9;river 9;");
    for (int what = 0; what < 4; what++) {
      due("no line", c.book(0, what), NONE);
    }
    c.rank(1, 0);
    c.weeks(2);
    due("lines", c.look(7), 7);
    int[][] due = {{0, 1, 0, 0}, {0, 1, 1, 0}, {1, 0, 0, 0}, {1, 1, 1, 1}, {1, 1, 2, 0}, {1, 0, 1, 0}, {1, 1, 3, 0}};
    for (int i = 0; i < 7; i++) {
      line(c, i, due[i][0], due[i][1], due[i][2], due[i][3]);
    }
    for (int i : ints(-1, 7, 8, 199, 200, MIN, MAX)) {
      for (int what = 0; what < 4; what++) {
        due("book(" + i + ", " + what + ")", c.book(i, what), NONE);
      }
    }
    for (int what : ints(-1, 4, 5, MIN, MAX)) {
      due("book(0, " + what + ")", c.book(0, what), NONE);
      due("book(6, " + what + ")", c.book(6, what), NONE);
    }
    c.undo();
    row("undone lines", ints(c.look(7), c.book(1, 2), c.book(2, 2)), 2, 1, NONE);
    text(c, 1, "river 9;", 1);
    row("told anew", ints(c.look(7), c.book(0, 0)), 0, NONE);
  }

  // ---- promise 32: look

  @Says("What 0 BLOCKS, 1 STRETCHES, 2 WEEK, 3 MUD, 4 how many are LAID, 5 FALLS, 6 SINCE (NONE), 7 lines of THE BOOK, 8 STATE, "
      + "9 lines of THE LAW, 12 STEPS of A PLAN, 10 what can be undone, 11 SIZES of the west that are LAID less those of the east,")
  static void promise32What() {
    DomeCalendar c = make("block 1 of 0 west;block 5 of 0 east;block 1 of 1 west;", "river 10;bridge 9;");
    text(c, 2, "haul 30;haul 20;haul 9;", 3);
    text(c, 3, "again 3(wait 2;hire 1;)", 6);
    c.set(CUTTERS, 2);
    c.set(MASONS, 2);
    c.set(RAIN, 1000);
    c.set(CENTRE, 3);
    c.vein(1, false);
    c.weeks(2);
    int[] due = {3, 2, 2, 4, 2, 0, 1, 10, next(next(0)), 3, 2, -4, 6};
    for (int what = 0; what < 13; what++) {
      due("look(" + what + ")", c.look(what), due[what]);
    }
    c.weeks(3);
    row("FALLS, SINCE, LAID, apart", looks(c, 5, 6, 4, 11), 1, NONE, 0, 0);
  }

  @Says({"20 + k as set() tells k, 40 + v 1 if VEIN v is open, else 0.", "NONE - 999 for another what."})
  static void promise32AnotherWhat() {
    DomeCalendar c = dome(blocks(2));
    for (int what : ints(-1, -2, 13, 14, 19, 32, 33, 39, 44, 45, -1000, MIN, MAX)) {
      due("look(" + what + ")", c.look(what), -1000);
    }
    for (int what : ints(0, 12, 20, 31, 40, 43)) {
      due("look(" + what + ")", c.look(what) != -1000, true);
    }
    int[] v = {99, 9999, 98, 9, 8, 7, 1000, 999, 998, 51, 997, 519};
    for (int k = 0; k < 12; k++) {
      c.set(k, v[k]);
    }
    for (int k = 0; k < 12; k++) {
      due("look(" + (20 + k) + ")", c.look(20 + k), v[k]);
    }
    c.vein(0, false);
    c.vein(3, false);
    row("veins", looks(c, 40, 41, 42, 43), 0, 1, 1, 0);
  }

  @Says("(STATE as it is.)")
  static void promise32StateAsItIs() {
    DomeCalendar c = new DomeCalendar();
    for (int v : ints(0, -1, -1000, NONE - 999, MIN, MAX)) {
      c.state(v);
      due("look(8)", c.look(8), v);
      due("look changes nothing", c.look(8), v);
    }
  }

  @Says("10 what can be undone")
  static void promise32WhatCanBeUndone() {
    DomeCalendar c = new DomeCalendar();
    int[] due = {0, 1, 2, 3, 4, 5, 5, 5};
    for (int n = 0; n < 8; n++) {
      due("behind " + n, c.look(10), due[n]);
      c.weeks(1);
    }
    for (int n = 4; n >= 0; n--) {
      c.undo();
      due("undone", c.look(10), n);
    }
    c.undo();
    due("no less than none", c.look(10), 0);
  }

  @Says("11 SIZES of the west that are LAID less those of the east")
  static void promise32WestLessEast() {
    DomeCalendar c = dome("block 20 of 0 east;".repeat(14));
    due("none", c.look(11), 0);
    c.weeks(14);
    due("all of the east", c.look(11), -280);
    text(c, 0, "block 20 of 0 west;".repeat(14), 14);
    c.weeks(13);
    due("all but one of the west", c.look(11), 260);
    c.weeks(1);
    due("all of the west", c.look(11), 280);
  }
}
