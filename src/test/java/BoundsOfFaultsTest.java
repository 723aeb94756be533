/** Promise 9 at its bounds: which FAULT a text has, and at which place. */
public final class BoundsOfFaultsTest extends Bounds {
  public static void main(String[] args) {
    run(BoundsOfFaultsTest.class);
  }

  /** A NUMBER in a text, at its bounds, one inside and one outside: FAULT 2 at it. */
  private static void number(int k, String ahead, String behind, int least, int most) {
    for (int v : ints(least, least + 1, most - 1, most)) {
      fine(k, ahead + v + behind, count(k, ahead));
      fine(k, ahead + "000".substring(String.valueOf(v).length() - 1) + v + behind, count(k, ahead));
    }
    for (int v : ints(least - 1, most + 1, 9999)) {
      if (v >= 0) {
        faulty(k, ahead + v + behind, 2, ahead.length());
      }
    }
    faulty(k, ahead + "-" + least + behind, 1, ahead.length());
    faulty(k, ahead + "x" + behind, 1, ahead.length());
    faulty(k, ahead + "00000" + behind, 1, ahead.length());
    faulty(k, ahead, 1, ahead.length());
  }

  private static int count(int k, String ahead) {
    return k == 0 ? ahead.split("block", -1).length - 1 : 1;
  }

  // ---- fault()

  @Says("Of the latest text(): what 0 the FAULT (0 without one), 1 its place (NONE). NONE for another what.")
  static void promise9What() {
    DomeCalendar c = new DomeCalendar();
    row("no text yet", ints(c.fault(0), c.fault(1)), 0, NONE);
    tell(c, 0, " x");
    row("a FAULT", ints(c.fault(0), c.fault(1)), 1, 1);
    for (int what : ints(-1, 2, 3, MIN, MAX)) {
      due("fault(" + what + ")", c.fault(what), NONE);
    }
    row("asked for once more", ints(c.fault(0), c.fault(1)), 1, 1);
    feed(c, "road 0;");
    row("feed() and end() are no text()", ints(c.fault(0), c.fault(1)), 1, 1);
    c.text(1);
    row("the latest", ints(c.fault(0), c.fault(1)), 2, 5);
    c.weeks(1);
    c.undo();
    row("no other call changes it", ints(c.fault(0), c.fault(1)), 2, 5);
    tell(c, 1, "road 1;");
    row("without one", ints(c.fault(0), c.fault(1)), 0, NONE);
    tell(c, 2, "");
    row("without one", ints(c.fault(0), c.fault(1)), 0, NONE);
  }

  @Says("no such one (fault() tells 0)")
  static void promise9NoSuchText() {
    for (int k : ints(-1, 4)) {
      DomeCalendar c = new DomeCalendar();
      tell(c, 0, "x");
      due("a FAULT", c.fault(0), 1);
      tell(c, k, "x");
      row("text(" + k + ")", ints(c.fault(0), c.fault(1)), 0, NONE);
    }
    DomeCalendar c = new DomeCalendar();
    tell(c, 3, "x");
    row("text(3)", ints(c.fault(0), c.fault(1)), 1, 0);
  }

  // ---- FAULT 1

  private static void cutShort(int k, String... tokens) {
    StringBuilder text = new StringBuilder();
    for (String token : tokens) {
      text.append(text.length() == 0 ? "" : " ").append(token);
      String open = text.toString();
      if (!open.equals(String.join(" ", tokens))) {
        faulty(k, open, 1, open.length());
        faulty(k, open + " ", 1, open.length() + 1);
        faulty(k, open + " \n ", 1, open.length() + 3);
        faulty(k, open + " ?", 1, open.length() + 1);
      }
    }
    fine(k, text.toString(), 1);
    fine(k, text + " \n ", 1);
  }

  @Says("1 what can't stand there (the end: the text's length).")
  static void promise9TheEndIsTheLength() {
    cutShort(0, "block", "1", "of", "0", "west", ";");
    cutShort(0, "block", "1", "of", "0", "east", ";");
    cutShort(1, "road", "1", ";");
    cutShort(1, "bridge", "1", ";");
    cutShort(2, "haul", "1", "+", "size", "*", "2", "/", "3", "-", "mud", ";");
    cutShort(2, "haul", "1", "when", "not", "(", "1", "<", "2", "or", "2", "=", "3", "and", "left", ">", "oxen", ")", ";");
    cutShort(3, "wait", "1", ";");
    cutShort(3, "rank", "1", "to", "0", ";");
    cutShort(3, "again", "1", "(", "masons", "1", ";", ")");
    cutShort(3, "again", "1", "(", "again", "1", "(", "shut", "1", ";", ")", ")");
    String two = "block 1 of 0 west;block 1 of 0 west after";
    faulty(0, two, 1, two.length());
    faulty(0, two + " 0", 1, two.length() + 2);
    faulty(0, two + " 0 and", 1, two.length() + 6);
    faulty(0, two + " 0 and 0", 1, two.length() + 8);
    fine(0, two + " 0 and 0;", 2);
    fine(0, "", 0);
    fine(0, " \n ", 0);
  }

  @Says("FAULTS, the first by its place, at one place the least:")
  static void promise9TheFirstByItsPlace() {
    faulty(0, "block 0 of 9 north", 2, 6);
    faulty(0, "block 1 of 9 north", 2, 11);
    faulty(0, "block 1 of 0 north", 1, 13);
    faulty(0, "block 0 ?", 2, 6);
    faulty(0, "? block 0", 1, 0);
    faulty(1, "road 0;road", 2, 5);
    faulty(1, "road 1;road", 1, 11);
    faulty(2, "haul 1/0+?", 2, 7);
    faulty(2, "haul ?+1/0", 1, 5);
    faulty(3, "wait 0;again 1(", 2, 5);
    // More than 100 STEPS is a FAULT at the end alone: all others are ahead of it, or less.
    String many = "again 9(again 9(wait 1;))again 9(hire 1;sell 1;)wait 1;wait 1;";
    faulty(3, many, 4, many.length());
    faulty(3, many + "wait 61;", 2, many.length() + 5);
    faulty(3, many + "?", 1, many.length());
    faulty(3, many + "again 1(".repeat(5), 3, many.length() + 32);
  }

  @Says("at one place the least")
  static void promise9AtOnePlaceTheLeast() {
    String many = "again 9(again 9(wait 1;))again 9(hire 1;sell 1;)wait 1;wait 1;";
    faulty(3, many + "wait 1", 1, many.length() + 6);
    faulty(3, many + "again 1(", 1, many.length() + 8);
    // What would be too many, if it could stand there.
    faulty(0, "block1of0west;".repeat(14) + "blocks", 1, 196);
    faulty(1, "road 1;".repeat(8) + "1", 1, 56);
    faulty(2, "haul 1;".repeat(16) + ";", 1, 112);
    faulty(2, "haul 1 when " + "not ".repeat(8) + ")", 1, 44);
    faulty(3, "again 1(".repeat(4) + "agains", 1, 32);
  }

  // ---- FAULT 2

  @Says({"2 (at the NUMBER) a part by 0; a SIZE, VEIN, LENGTH, ROOM beyond its bounds;", "a SIZE 1 .. 20"})
  static void promise9Size() {
    number(0, "block ", " of 0 west;", 1, 20);
    number(0, "block 1 of 0 west;block ", " of 0 east after 0;", 1, 20);
  }

  @Says({"a SIZE, VEIN, LENGTH, ROOM beyond its bounds", "a VEIN 0 .. 3, west or east"})
  static void promise9Vein() {
    number(0, "block 1 of ", " west;", 0, 3);
    number(0, "block 1 of ", " east;", 0, 3);
    faulty(0, "block 1 of 0;", 1, 12);
    faulty(0, "block 1 of 0 west east;", 1, 18);
  }

  @Says("0 a road, 1 a hill, 2 a river, each with a length 1 .. 99")
  static void promise9Length() {
    number(1, "road ", ";", 1, 99);
    number(1, "hill ", ";", 1, 99);
    number(1, "river ", ";", 1, 99);
  }

  @Says("3 a bridge, with ROOM 1 .. 9.")
  static void promise9Room() {
    number(1, "bridge ", ";", 1, 9);
  }

  @Says("an N that is not less than the BLOCK;")
  static void promise9NeighbourOfALesserNumber() {
    String one = "block1of0west";
    faulty(0, one + " after 0;", 2, 20);
    faulty(0, one + " after 1;", 2, 20);
    for (int b = 1; b < 14; b++) {
      String ahead = (one + ";").repeat(b) + one + " after ";
      fine(0, ahead + "0;", b + 1);
      fine(0, ahead + (b - 1) + ";", b + 1);
      faulty(0, ahead + b + ";", 2, ahead.length());
      faulty(0, ahead + (b + 1) + ";", 2, ahead.length());
      faulty(0, ahead + "0 and " + b + ";", 2, ahead.length() + 6);
      faulty(0, ahead + "9999;", 2, ahead.length());
      faulty(0, ahead + "10000;", 1, ahead.length());
    }
  }

  @Says("a part by 0")
  static void promise9PartByNull() {
    faulty(2, "haul 1/0;", 2, 7);
    faulty(2, "haul 1/00;", 2, 7);
    faulty(2, "haul 1/0000;", 2, 7);
    faulty(2, "haul 1/00000;", 1, 7);
    fine(2, "haul 1/1;", 1);
    fine(2, "haul 1/0001;", 1);
    fine(2, "haul 1/9999;", 1);
    fine(2, "haul 0/1;", 1);
    fine(2, "haul 1*0;", 1);
    faulty(2, "haul 1 / 2 / 0 ;", 2, 13);
    faulty(2, "haul 1 when 1/0=1;", 2, 14);
    faulty(2, "haul 1 when 1=1/0;", 2, 16);
  }

  @Says("of A PLAN: wait 1 .. 60, rank 0 .. 13 to 0 .. 13, hire, sell 1 .. 99, open, shut 0 .. 3, cutters, masons 0 .. 9, "
      + "again 1 .. 9.")
  static void promise9NumbersOfAPlan() {
    number(3, "wait ", ";", 1, 60);
    number(3, "rank ", " to 0;", 0, 13);
    number(3, "rank 0 to ", ";", 0, 13);
    number(3, "hire ", ";", 1, 99);
    number(3, "sell ", ";", 1, 99);
    number(3, "open ", ";", 0, 3);
    number(3, "shut ", ";", 0, 3);
    number(3, "cutters ", ";", 0, 9);
    number(3, "masons ", ";", 0, 9);
    number(3, "again 1(wait ", ";)", 1, 60);
    for (int v : ints(1, 2, 8, 9)) {
      fine(3, "again " + v + "(wait 1;)", v);
    }
    for (int v : ints(0, 10, 11, 9999)) {
      faulty(3, "again " + v + "(wait 1;)", 2, 6);
    }
  }

  // ---- FAULT 3

  @Says("3 (at its KEYWORD) the 17th line of THE LAW, the 15th BLOCK, the 9th STRETCH;")
  static void promise9TheSeventeenthLine() {
    fine(2, "haul 1;".repeat(15), 15);
    fine(2, "haul 1;".repeat(16), 16);
    fine(2, "haul 1;".repeat(16) + " \n", 16);
    faulty(2, "haul 1;".repeat(17), 3, 112);
    faulty(2, "haul 1;".repeat(16) + " haul", 3, 113);
    faulty(2, "haul 1;".repeat(18), 3, 112);
  }

  @Says("the 15th BLOCK")
  static void promise9TheFifteenthBlock() {
    String one = "block1of0west;";
    fine(0, one.repeat(13), 13);
    fine(0, one.repeat(14), 14);
    fine(0, one.repeat(14) + " \n", 14);
    faulty(0, one.repeat(15), 3, 196);
    faulty(0, one.repeat(14) + " block", 3, 197);
    faulty(0, one.repeat(16), 3, 196);
  }

  @Says("the 9th STRETCH")
  static void promise9TheNinthStretch() {
    for (String one : new String[] {"road 1;", "hill 1;", "river 1;", "bridge 1;"}) {
      fine(1, one.repeat(7), 7);
      fine(1, one.repeat(8), 8);
      fine(1, one.repeat(8) + " \n", 8);
      faulty(1, one.repeat(9), 3, 8 * one.length());
      faulty(1, one.repeat(8) + " " + one.substring(0, one.length() - 3), 3, 8 * one.length() + 1);
    }
  }

  @Says("(at it) the 9th ( or not that is open;")
  static void promise9TheNinthOpen() {
    String ahead = "haul 1 when ";
    for (int n = 1; n <= 9; n++) {
      String brackets = ahead + "(".repeat(n) + "1=1" + ")".repeat(n) + ";";
      String nots = ahead + "not ".repeat(n) + "1=1;";
      String both = ahead + ("not " + "(".repeat(1)).repeat(n / 2) + (n % 2 == 1 ? "not " : "") + "1=1" + ")".repeat(n / 2) + ";";
      if (n < 9) {
        fine(2, brackets, 1);
        fine(2, nots, 1);
        fine(2, both, 1);
      } else {
        faulty(2, brackets, 3, ahead.length() + 8);
        faulty(2, nots, 3, ahead.length() + 32);
        faulty(2, both, 3, ahead.length() + 20);
      }
    }
    // One that is shut is open no more, and a not is shut behind its C.
    fine(2, ahead + "(1=1)and ".repeat(12) + "1=1;", 1);
    fine(2, ahead + "not 1=1 or ".repeat(12) + "1=1;", 1);
    fine(2, ahead + "((((((((1=1)))))))) and ((((((((1=1))))))));", 1);
    fine(2, ahead + "(((((((not 1=1 and not 1=1)or(1=1)))))));", 1);
    String deep = ahead + "(((((((not 1=1 and (";
    faulty(2, deep + "(1=1)))))))));", 3, deep.length());
    fine(2, "haul 1 when ((((((((1=1))))))));".repeat(3), 3);
  }

  @Says("(at again) the 5th that is open.")
  static void promise9TheFifthAgain() {
    String one = "again 1(";
    for (int n = 1; n <= 4; n++) {
      fine(3, one.repeat(n) + "wait 1;" + ")".repeat(n), 1);
    }
    faulty(3, one.repeat(5) + "wait 1;" + ")".repeat(5), 3, 32);
    faulty(3, one.repeat(4) + " again", 3, 33);
    faulty(3, one.repeat(6) + "wait 1;" + ")".repeat(6), 3, 32);
    fine(3, "again 1(wait 1;)".repeat(6), 6);
    fine(3, one.repeat(3) + "again 1(wait 1;)again 1(wait 1;)" + ")))", 2);
    faulty(3, one.repeat(3) + "again 1(wait 1;)again 1(again 1(wait 1;))" + ")))", 3, 48);
  }

  // ---- FAULT 4

  @Says("4 (at the end) more than 100 STEPS in one telling of A PLAN (each but again as often as it is told).")
  static void promise9MoreThanHundredSteps() {
    String hundred = "again 9(again 9(wait 1;)wait 2;wait 3;)wait 4;";
    fine(3, "again 9(again 9(wait 1;)wait 2;wait 3;)", 99);
    fine(3, hundred, 100);
    fine(3, hundred + "again 9()", 100);
    faulty(3, hundred + "wait 5;", 4, hundred.length() + 7);
    faulty(3, hundred + "wait 5; \n ", 4, hundred.length() + 10);
    faulty(3, "again 9(again 9(wait 1;wait 1;))", 4, 32);
    fine(3, "again 2(again 5(again 5(again 2(hire 1;))))", 100);
    faulty(3, "again 9(again 9(again 9(again 9(wait 1;))))", 4, 43);
    // 50 STEPS told 6561 times.
    faulty(3, "again 9(".repeat(4) + "wait 1;".repeat(50) + "))))", 4, 386);
    // Without again no tape has room for so many.
    fine(3, "wait1;".repeat(66), 66);
  }
}
