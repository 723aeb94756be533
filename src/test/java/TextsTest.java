/** Promises 6 to 9: the TAPE, the four TEXTS and their FAULTS. */
public final class TextsTest {
  private static final int NONE = DomeCalendar.NONE;

  public static void main(String[] args) {
    feed();
    end();
    text();
    toldAnew(0);
    toldAnew(1);
    lawOfHauling();
    lawOfTheWay();
    fault();
    faultsOfDome();
    faultsOfWay();
    faultsOfLaw();
    faultsOfPlan();
    Check.finish();
  }

  private static void feed() {
    Check.promise(6);
    DomeCalendar c = new DomeCalendar();
    for (int i = 1; i <= 20; i++) {
      Check.due("feed", c.feed(0x20202020, 0x20202020, 0x20202020, 0x20202020, 0x20202020), 20 * i);
    }
    Check.due("feed beyond", c.feed(1, 2, 3, 4, 5), NONE);
    Check.due("nothing came", c.end(401), false);
    Check.due("all is there", c.end(400), true);
    Check.due("blanks alone", c.text(0), 0);
    Check.due("feed", c.feed(0x726F6164, 0x20313B68, 0x696C6C20, 0x323B2020, 0xE92020FF), 20);
    Check.due("a byte above 127", c.text(1), NONE);
    Check.due("its place", c.fault(1), 16);
    Check.due("feed", c.feed(0x726F6164, 0x20313B68, 0x696C6C20, 0x32330A3B, 0x20202020), 20);
    Check.due("road 1;hill 23;", c.text(1), 2);
    Check.due("highest first", c.stretch(1, 1), 23);
    c.feed(0, 0, 0, 0, 0);
    c.end(19);
    for (int i = 1; i < 20; i++) {
      Check.due("feed behind", c.feed(0, 0, 0, 0, 0), 19 + 20 * i);
    }
    Check.due("399 and 20", c.feed(0, 0, 0, 0, 0), NONE);
    Check.due("399", c.end(399), true);
  }

  private static void end() {
    Check.promise(7);
    DomeCalendar c = new DomeCalendar();
    Check.due("end(0) of none", c.end(0), true);
    Check.due("end(1) of none", c.end(1), false);
    c.feed(0x726F6164, 0x20313B68, 0x696C6C20, 0x323B2020, 0x20202020);
    Check.due("end(21)", c.end(21), false);
    Check.due("end(-1)", c.end(-1), false);
    Check.due("end(20)", c.end(20), true);
    Check.due("end(7)", c.end(7), true);
    Check.due("end(8)", c.end(8), false);
    Check.due("text(1)", c.text(1), 1);
    Check.due("empty then", c.end(1), false);
    Check.due("length 1", c.stretch(0, 1), 1);
  }

  private static void text() {
    Check.promise(8);
    DomeCalendar c = new DomeCalendar();
    String dome = "block 20 of 3 east;\n block1of0west after 0;block 2 of 1 west after 1 and 0 and 1;";
    Check.due("dome", Check.tell(c, 0, dome), 3);
    Check.row("first", new int[] {c.of(0, 0), c.of(0, 1), c.of(0, 2), c.of(0, 3)}, 20, 3, 1, 0);
    Check.row("next", new int[] {c.of(1, 0), c.of(1, 1), c.of(1, 2), c.of(1, 3)}, 1, 0, 0, 1);
    Check.row("last", new int[] {c.of(2, 0), c.of(2, 1), c.of(2, 2), c.of(2, 3)}, 2, 1, 0, 3);
    Check.due("way", Check.tell(c, 1, "road 99;hill 1;river 50;bridge 9;"), 4);
    String law = "haul size*2-mud/3+week when wet=1 and not(left<3 or oxen>5)or sort=2;haul grease;";
    Check.due("law", Check.tell(c, 2, law), 2);
    Check.due("law lines", c.look(9), 2);
    String plan = "wait 3;again 2(rank 0 to 1;again 3(hire 1;)sell 1;)open 0;shut 1;cutters 0;masons 9;";
    Check.due("plan", Check.tell(c, 3, plan), 15);
    Check.due("plan steps", c.look(12), 15);
    Check.due("no such text", Check.tell(c, 4, "wait 1;"), NONE);
    Check.due("tape is empty", c.end(1), false);
    Check.due("no such text", Check.tell(c, -1, "wait 1;"), NONE);
    Check.due("faulty dome", Check.tell(c, 0, "block 1 of 0 west;x"), NONE);
    Check.due("tape is empty", c.end(1), false);
    Check.due("dome stays", c.look(0), 3);
    Check.due("faulty way", Check.tell(c, 1, "road 1;hill"), NONE);
    Check.due("way stays", c.look(1), 4);
    Check.due("way stays", c.stretch(0, 1), 99);
    Check.due("faulty law", Check.tell(c, 2, "haul 5;haul"), NONE);
    Check.due("law stays", c.look(9), 2);
    Check.due("faulty plan", Check.tell(c, 3, "wait 1;wait"), NONE);
    Check.due("plan stays", c.look(12), 15);
    Check.due("a way behind faulty texts", Check.tell(c, 1, "road 7;"), 1);
    Check.row("the dome stays", new int[] {c.look(0), c.of(0, 0), c.of(2, 3)}, 3, 20, 3);
    Check.due("empty law", Check.tell(c, 2, ""), 0);
    Check.due("no lines", c.look(9), 0);
    Check.due("empty plan", Check.tell(c, 3, " \n "), 0);
    Check.due("most blocks", Check.tell(c, 0, Check.blocks(14)), 14);
    Check.due("most stretches", Check.tell(c, 1, "bridge 9;".repeat(8)), 8);
    Check.due("most lines", Check.tell(c, 2, "haul 1;".repeat(16)), 16);
    Check.row("no neighbours are left of the dome ahead", new int[] {c.of(1, 3), c.of(2, 3)}, 0, 0);
    c.set(3, 9);
    c.weeks(2);
    Check.due("some are laid", Check.tell(c, 0, Check.blocks(2)), 2);
    Check.row("LAID, SINCE, apart", Check.looks(c, 4, 6, 11), 0, NONE, 0);
    Check.tell(c, 1, "");
    c.weeks(2);
    Check.row("LAID, SINCE, apart", Check.looks(c, 4, 6, 11), 2, 0, 2);
    Check.tell(c, 1, "");
    Check.row("LAID, SINCE, apart", Check.looks(c, 4, 6, 11), 0, NONE, 0);
  }

  private static void toldAnew(int k) {
    Check.promise(8);
    DomeCalendar c = Check.make("block 1 of 3 west;block 2 of 0 east;", "");
    Check.tell(c, 2, "haul 1;");
    Check.tell(c, 3, "wait 1;");
    c.set(3, 2);
    c.set(6, 1000);
    c.set(8, 1000);
    c.set(9, 1);
    c.set(11, 1);
    c.weeks(2);
    Check.due("split", c.of(1, 1), 1);
    Check.due("fell", c.look(5), 1);
    c.rank(0, 1);
    c.vein(2, false);
    int draws = c.look(8);
    String text = k == 0 ? "block 1 of 3 west;block 2 of 0 east;" : "road 5;";
    Check.due("told anew", Check.tell(c, k, text), k == 0 ? 2 : 1);
    Check.row("in the rock", Check.where(c), 0, 0);
    Check.due("vein as told", c.of(1, 1), 0);
    Check.waited(c, 0, 0, 0, 0, 0, 0);
    Check.waited(c, 1, 0, 0, 0, 0, 0);
    Check.order(c, 0, 1);
    Check.row("begun anew", Check.looks(c, 2, 3, 4, 5, 6, 7, 10, 11), 0, 0, 0, 0, NONE, 0, 0, 0);
    // Two wet weeks: 20 grew and 10 were eaten in each.
    Check.row("all else stays", Check.looks(c, 8, 9, 12, 23, 42, 21), draws, 1, 1, 2, 0, 120);
    Check.due("the other text stays", k == 0 ? c.look(1) : c.look(0), k == 0 ? 0 : 2);
  }

  /** What a block of size 3 has done of a road of 99 behind one week. */
  private static int hauled(String law) {
    DomeCalendar c = Check.make("block 3 of 0 west;", "road 99;");
    c.set(5, 4);
    Check.due("law " + law, Check.tell(c, 2, law) >= 0, true);
    c.weeks(1);
    return c.of(0, 6);
  }

  private static void lawOfHauling() {
    Check.promise(8);
    Check.due("no law", hauled(""), 10);
    Check.due("no line is so", hauled("haul 3 when 1>2;"), 10);
    Check.due("the first that is so", hauled("haul 3 when 1>2;haul 4;haul 5;"), 4);
    Check.due("held to 0", hauled("haul 1-2;"), 0);
    Check.due("98 of 99", hauled("haul 98;"), 98);
    Check.due("held to 99: over it", hauled("haul 100;"), NONE);
    Check.due("from the left", hauled("haul 20-5-3;"), 12);
    Check.due("times first", hauled("haul 2+3*4;"), 14);
    Check.due("times and parts from the left", hauled("haul 7*3/2*2;"), 20);
    Check.due("a part goes towards 0", hauled("haul 5-7/2;"), 2);
    // 9999 * 9999 * 30 wraps to -1295567266.
    Check.due("a part below 0 goes towards 0", hauled("haul 9999*9999*30/9999/9999+40;"), 28);
    Check.due("wraps", hauled("haul 1 when 9999*9999*30<0;haul 2;"), 1);
    Check.due("wraps", hauled("haul 1 when 9999*9999*50>9999*9999*20;haul 2;"), 2);
    Check.due("names", hauled("haul size*10+grease+sort+mud+wet+week;"), 34);
    Check.due("oxen", hauled("haul oxen;"), 10);
    Check.due("left", hauled("haul left-90;"), 9);
    Check.due("and ahead of or", hauled("haul 1 when 1=1 or 1=2 and 1=2;haul 2;"), 1);
    Check.due("and ahead of or", hauled("haul 1 when 1=2 and 1=2 or 1=1;haul 2;"), 1);
    Check.due("or, and, or", hauled("haul 1 when 1=2 or 1=1 and 1=2 or 1=2;haul 2;"), 2);
    Check.due("brackets", hauled("haul 1 when (1=1 or 1=2) and 1=2;haul 2;"), 2);
    Check.due("not takes one", hauled("haul 1 when not 1=2 and 1=2;haul 2;"), 2);
    Check.due("not takes brackets", hauled("haul 1 when not (1=2 and 1=2);haul 2;"), 1);
    Check.due("not not", hauled("haul 1 when not not 1=2;haul 2;"), 2);
    Check.due("less", hauled("haul 1 when 2<2;haul 2 when 1<2;"), 2);
    Check.due("more", hauled("haul 1 when 2>2;haul 2 when 3>2;"), 2);
    Check.due("ors", hauled("haul 1 when 1=2 or 1=2 or 1=1;"), 1);
    Check.due("deep", hauled("haul 1 when ((((not not not 1=2))));haul 2;"), 1);
    Check.due("eight open", hauled("haul 1 when ((((((((1=1))))))));"), 1);
    Check.due("eight open", hauled("haul 1 when not not not not not not not not 1=1;haul 2;"), 1);
    Check.due("one behind another", hauled("haul 1 when (((1=1)))and(((1=1)))and((((((1=1))))));"), 1);
  }

  private static void lawOfTheWay() {
    Check.promise(8);
    DomeCalendar c = Check.make("block 1 of 0 west;", "river 40;hill 60;");
    Check.tell(c, 2, "haul sort*10+week+left/10;");
    c.weeks(1);
    Check.due("river: 20 + 0 + 4", c.of(0, 6), 24);
    c.weeks(1);
    Check.due("20 + 1 + 1: over", c.of(0, 5), 1);
    c.set(6, 1000);
    Check.tell(c, 2, "haul sort*10+week+left/10+wet*3+mud;");
    c.weeks(1);
    Check.due("hill: 10 + 2 + 6 + 3 + 2", c.of(0, 6), 23);
    // All oxen there are, not those that are free.
    DomeCalendar d = Check.make("block 4 of 0 west;block 4 of 0 west;", "road 99;");
    d.set(3, 2);
    Check.tell(d, 2, "haul oxen;");
    d.weeks(1);
    Check.due("the first", d.of(0, 6), 10);
    Check.due("the next", d.of(1, 6), 10);
  }

  private static void faulty(int k, String text, int fault, int place) {
    DomeCalendar c = new DomeCalendar();
    Check.due("text " + k + " of " + text, Check.tell(c, k, text), NONE);
    Check.due("fault of " + text, c.fault(0), fault);
    Check.due("place in " + text, c.fault(1), place);
  }

  private static void fine(int k, String text, int count) {
    DomeCalendar c = new DomeCalendar();
    Check.due("text " + k + " of " + text, Check.tell(c, k, text), count);
    Check.due("fault of " + text, c.fault(0), 0);
    Check.due("place in " + text, c.fault(1), NONE);
  }

  private static void fault() {
    Check.promise(9);
    DomeCalendar c = new DomeCalendar();
    Check.tell(c, 0, "x");
    Check.due("fault(0)", c.fault(0), 1);
    Check.due("fault(1)", c.fault(1), 0);
    Check.due("fault(2)", c.fault(2), NONE);
    Check.due("fault(-1)", c.fault(-1), NONE);
    Check.tell(c, 9, "x");
    Check.due("no such text", c.fault(0), 0);
    Check.due("no such text", c.fault(1), NONE);
    Check.tell(c, 0, "x");
    Check.tell(c, 0, "");
    Check.due("no fault", c.fault(0), 0);
    Check.due("no place", c.fault(1), NONE);
  }

  private static void faultsOfDome() {
    Check.promise(9);
    faulty(0, "Block 1 of 0 west;", 1, 0);
    faulty(0, "blocks 1 of 0 west;", 1, 0);
    faulty(0, "road 1;", 1, 0);
    faulty(0, " block", 1, 6);
    faulty(0, "block  \n", 1, 8);
    faulty(0, "block 00001 of 0 west;", 1, 6);
    faulty(0, "block x of 0 west;", 1, 6);
    faulty(0, "block 0 of 9 west;", 2, 6);
    faulty(0, "block 21 of 0 west;", 2, 6);
    faulty(0, "block 1 of 4 west;", 2, 11);
    faulty(0, "block 1 off 0 west;", 1, 8);
    faulty(0, "block 1 of 0 north;", 1, 13);
    faulty(0, "block 1 of 0 west,", 1, 17);
    faulty(0, "block 1 of 0 west\t;", 1, 17);
    faulty(0, "block 1 of 0 west after;", 1, 23);
    faulty(0, "block 1 of 0 west after 0;", 2, 24);
    faulty(0, Check.blocks(1) + "block 1 of 0 west after 0 and 1;", 2, 48);
    faulty(0, Check.blocks(1) + "block 1 of 0 west after 0 and;", 1, 47);
    faulty(0, Check.blocks(1) + "block 1 of 0 west after 0 0;", 1, 44);
    faulty(0, Check.blocks(14) + "block 99", 3, 252);
    faulty(0, Check.blocks(14) + "x", 1, 252);
    fine(0, Check.blocks(14) + "  \n", 14);
    fine(0, "block0020of0003west;block 1 of 0 east after 0000;", 2);
  }

  private static void faultsOfWay() {
    Check.promise(9);
    faulty(1, "road 0;", 2, 5);
    faulty(1, "hill 100;", 2, 5);
    faulty(1, "river 100", 2, 6);
    faulty(1, "bridge 10;", 2, 7);
    faulty(1, "bridge 0;", 2, 7);
    faulty(1, "road 1", 1, 6);
    faulty(1, "road 1 2;", 1, 7);
    faulty(1, "road 1;;", 1, 7);
    faulty(1, "road;", 1, 4);
    faulty(1, "path 1;", 1, 0);
    faulty(1, " roadA 1;", 1, 1);
    faulty(1, " roadZ 1;", 1, 1);
    faulty(1, "road 1;zroad 1;", 1, 7);
    faulty(1, "road 1;roada 1;", 1, 7);
    faulty(1, "road[1;", 1, 4);
    faulty(1, "road@1;", 1, 4);
    faulty(1, "river 1;".repeat(8) + "river 0;", 3, 64);
    faulty(1, "river 1;".repeat(8) + "rivers", 1, 64);
    fine(1, "bridge 9;road 99;hill 1;", 3);
  }

  private static void faultsOfLaw() {
    Check.promise(9);
    faulty(2, "haul 5/0;", 2, 7);
    faulty(2, "haul 5/0000", 2, 7);
    faulty(2, "haul 5/size;", 1, 7);
    faulty(2, "haul 5/12345;", 1, 7);
    faulty(2, "haul 12345;", 1, 5);
    faulty(2, "haul (1);", 1, 5);
    faulty(2, "haul -1;", 1, 5);
    faulty(2, "haul 1+;", 1, 7);
    faulty(2, "haul 1*;", 1, 7);
    faulty(2, "haul 1 when;", 1, 11);
    faulty(2, "haul 1 when 1;", 1, 13);
    faulty(2, "haul 1 when 1<2<3;", 1, 15);
    faulty(2, "haul 1 when (1<2;", 1, 16);
    faulty(2, "haul 1 when (1<2", 1, 16);
    faulty(2, "haul 1 when (1)<2;", 1, 14);
    faulty(2, "haul 1 when 1<2 or;", 1, 18);
    faulty(2, "haul 1 when 1<2 and or 1<2;", 1, 20);
    faulty(2, "haul 1 when not;", 1, 15);
    faulty(2, "haul 1 when 1<2)", 1, 15);
    faulty(2, "haul 1 when 1<2 not 1<2;", 1, 16);
    faulty(2, "haul 1 when not not not not not not not not not 1<2;", 3, 44);
    faulty(2, "haul 1 when (((((((((1<2))))))))) ;", 3, 20);
    faulty(2, "haul 1 when not(not(not(not(not 1<2", 3, 28);
    fine(2, "haul 1 when not(not(not(not( 1<2))));", 1);
    fine(2, "haul 1 when not 1<2 and not 1<2 or not 1<2 and not(not(not(1<2)))and not 1=1;", 1);
    faulty(2, "haul 1;".repeat(16) + "haul", 3, 112);
    faulty(2, "haul 1;".repeat(16) + "hau", 1, 112);
    faulty(2, "haul 1", 1, 6);
    faulty(2, "haul 1 ", 1, 7);
    faulty(2, "haul wait;", 1, 5);
    faulty(2, "haul 1.", 1, 6);
    fine(2, "haul1when1<2or 1=2and\n3>2;", 1);
    fine(2, "haul 9999/9999*0000;", 1);
  }

  private static void faultsOfPlan() {
    Check.promise(9);
    faulty(3, "wait 0;", 2, 5);
    faulty(3, "wait 61;", 2, 5);
    faulty(3, "rank 14 to 0;", 2, 5);
    faulty(3, "rank 0 to 14;", 2, 10);
    faulty(3, "rank 0 1;", 1, 7);
    faulty(3, "rank 0;", 1, 6);
    faulty(3, "hire 0;", 2, 5);
    faulty(3, "hire 100;", 2, 5);
    faulty(3, "sell 0;", 2, 5);
    faulty(3, "sell 100;", 2, 5);
    faulty(3, "open 4;", 2, 5);
    faulty(3, "shut 4;", 2, 5);
    faulty(3, "cutters 10;", 2, 8);
    faulty(3, "masons 10;", 2, 7);
    faulty(3, "again 0(wait 1;)", 2, 6);
    faulty(3, "again 10(wait 1;)", 2, 6);
    faulty(3, "again 1 wait 1;", 1, 8);
    faulty(3, "again 1(wait 1;", 1, 15);
    faulty(3, "again 1(wait 1;);", 1, 16);
    faulty(3, ")", 1, 0);
    faulty(3, "wait 1;)", 1, 7);
    faulty(3, "wait 1", 1, 6);
    faulty(3, "haul 1;", 1, 0);
    faulty(3, "again 1(".repeat(4) + "again", 3, 32);
    fine(3, "wait 60;rank 13 to 13;hire 99;sell 99;open 0;shut 3;cutters 0;masons 9;again 9()", 8);
    fine(3, "again 2(".repeat(4) + "wait 1;" + "))))", 16);
    fine(3, "again 1(again 1(wait 1;))".repeat(5), 5);
    fine(3, "again 9(again 9(wait 1;))again 9(hire 1;sell 1;)wait 1;", 100);
    String many = "again 9(again 9(wait 1;))again 9(hire 1;sell 1;)wait 1;wait 1;";
    faulty(3, many, 4, many.length());
    faulty(3, many + " ", 4, many.length() + 1);
    faulty(3, many + "wait", 1, many.length() + 4);
    faulty(3, many + "wait 0;", 2, many.length() + 5);
    faulty(3, "again 9(".repeat(4) + "wait 1;".repeat(50) + "))))", 4, 386);
  }
}
