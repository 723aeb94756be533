/** Promises 6 to 8 at their bounds: the TAPE, and the TEXTS that stand. */
public final class BoundsOfTextsTest extends Bounds {
  private static final int BLANKS = 0x20202020;

  public static void main(String[] args) {
    run(BoundsOfTextsTest.class);
  }

  // ---- promise 6: feed

  @Says("Twenty bytes come behind the TAPE, of each number the highest first: how many it has.")
  static void promise6TheHighestFirst() {
    for (int place = 0; place < 20; place++) {
      int[] v = {BLANKS, BLANKS, BLANKS, BLANKS, BLANKS};
      v[place / 4] ^= 3 << 24 - place % 4 * 8;
      DomeCalendar c = new DomeCalendar();
      due("feed", c.feed(v[0], v[1], v[2], v[3], v[4]), 20);
      due("a sign that none is", c.text(0), NONE);
      row("its place", ints(c.fault(0), c.fault(1)), 1, place);
    }
    DomeCalendar c = new DomeCalendar();
    due("feed", c.feed(BLANKS, BLANKS, BLANKS, BLANKS, BLANKS), 20);
    due("feed behind", c.feed(BLANKS, BLANKS, BLANKS, BLANKS, BLANKS + 1), 40);
    due("a sign that none is", c.text(0), NONE);
    due("its place", c.fault(1), 39);
  }

  @Says("Twenty bytes come behind the TAPE")
  static void promise6AnyByte() {
    // 0xA0 and 0x8A would be blanks without their highest bit, 0xF2 an r.
    for (int b : ints(0, 1, 9, 11, 31, 33, 127, 128, 0x8A, 0xA0, 0xF2, 254, 255)) {
      for (int shift = 0; shift < 32; shift += 8) {
        DomeCalendar c = new DomeCalendar();
        c.feed(BLANKS, BLANKS & ~(255 << shift) | b << shift, BLANKS, BLANKS, BLANKS);
        due("text with byte " + b, c.text(1), NONE);
        row("its place", ints(c.fault(0), c.fault(1)), 1, 7 - shift / 8);
      }
    }
    for (int b : ints(10, 32)) {
      DomeCalendar c = new DomeCalendar();
      c.feed(BLANKS, BLANKS, BLANKS & ~255 | b, BLANKS, BLANKS);
      due("text with byte " + b, c.text(1), 0);
    }
  }

  @Says("NONE, and nothing comes, if there would be more than 400.")
  static void promise6FourHundredAtMost() {
    DomeCalendar c = new DomeCalendar();
    for (int i = 1; i <= 20; i++) {
      due("feed", c.feed(BLANKS, BLANKS, BLANKS, BLANKS, BLANKS), 20 * i);
    }
    due("from 400", c.feed(1, 2, 3, 4, 5), NONE);
    due("from 400 once more", c.feed(1, 2, 3, 4, 5), NONE);
    due("not more than 400", c.end(401), false);
    due("not less than 400", c.end(400), true);
    due("to 381", c.end(381), true);
    due("from 381", c.feed(1, 2, 3, 4, 5), NONE);
    due("not more than 381", c.end(382), false);
    due("to 380", c.end(380), true);
    due("from 380", c.feed(BLANKS, BLANKS, BLANKS, BLANKS, BLANKS), 400);
    due("to 379", c.end(379), true);
    due("from 379", c.feed(BLANKS, BLANKS, BLANKS, BLANKS, BLANKS), 399);
    due("from 399", c.feed(1, 2, 3, 4, 5), NONE);
    due("nothing came but blanks", c.text(0), 0);
    due("from none", c.feed(BLANKS, BLANKS, BLANKS, BLANKS, BLANKS), 20);
  }

  @Says("if there would be more than 400")
  static void promise6TheLastByteCounts() {
    fine(1, " ".repeat(392) + "road 50;", 1);
    faulty(1, " ".repeat(393) + "road 50", 1, 400);
    faulty(1, " ".repeat(399) + "x", 1, 399);
    fine(2, "haul " + "1+".repeat(196) + "1; ", 1);
    // As many TOKENS as there are bytes.
    faulty(0, ";".repeat(400), 1, 0);
    faulty(2, "haul 1 when " + "1+".repeat(194), 1, 400);
    faulty(3, "wait1;".repeat(66) + "wait", 1, 400);
    fine(2, "haul 1 when " + "1+".repeat(192) + "1=1;", 1);
  }

  // ---- promise 7: end

  @Says("The TAPE has its first n bytes alone: true; false, changing nothing, if it has not so many, or n is below 0.")
  static void promise7FromNoneToAll() {
    for (int length : ints(20, 40, 400)) {
      DomeCalendar c = new DomeCalendar();
      for (int i = 0; i < length / 20; i++) {
        c.feed(BLANKS, BLANKS, BLANKS, BLANKS, BLANKS);
      }
      for (int n : ints(length + 1, length + 2, -1, -2, MIN, MAX)) {
        due("end(" + n + ") of " + length, c.end(n), false);
      }
      due("all of it", c.end(length), true);
      due("all of it, once more", c.end(length), true);
      due("one less", c.end(length - 1), true);
      due("one more than that", c.end(length), false);
      due("one", c.end(1), true);
      due("two are too many", c.end(2), false);
      due("none", c.end(0), true);
      due("none of none", c.end(0), true);
      due("one of none", c.end(1), false);
      due("below none", c.end(-1), false);
      due("feed behind none", c.feed(0, 0, 0, 0, 0), 20);
    }
  }

  @Says("The TAPE has its first n bytes alone")
  static void promise7TheFirstAlone() {
    String way = "road 1;hill 2;river 3";
    DomeCalendar c = new DomeCalendar();
    feed(c, way);
    due("end(22)", c.end(22), false);
    due("end(-1)", c.end(-1), false);
    due("changing nothing: the third is not whole", c.text(1), NONE);
    row("at the end", ints(c.fault(0), c.fault(1)), 1, 21);
    feed(c, way);
    due("end(14)", c.end(14), true);
    due("the first fourteen", c.text(1), 2);
    feed(c, way);
    due("end(13)", c.end(13), true);
    due("the first thirteen", c.text(1), NONE);
    row("at the end", ints(c.fault(0), c.fault(1)), 1, 13);
    feed(c, way);
    due("end(7)", c.end(7), true);
    due("feed behind the seventh", c.feed(0x62726964, 0x67652039, 0x3B202020, BLANKS, BLANKS), 27);
    due("road and bridge", c.text(1), 2);
    row("sorts, length, ROOM", ints(c.stretch(0, 0), c.stretch(0, 1), c.stretch(1, 0), c.stretch(1, 1)), 0, 1, 3, 9);
  }

  // ---- promise 8: text

  private static DomeCalendar full() {
    DomeCalendar c = make("block 3 of 1 west;block 4 of 2 east after 0;block 2 of 3 west;", "road 15;river 20;");
    text(c, 2, "haul 9;haul 8;", 2);
    text(c, 3, "wait 2;hire 1;", 2);
    settings(c, RAIN, 700, CUTTERS, 2);
    c.rank(2, 0);
    c.vein(0, false);
    c.weeks(3);
    return c;
  }

  @Says("NONE: no such one (fault() tells 0), or a FAULT (it stays as it was).")
  static void promise8NoSuchText() {
    for (int k : ints(-1, 4, 5, MIN, MAX)) {
      DomeCalendar c = full();
      int[] before = all(c);
      for (String text : new String[] {"", "road 5;", "block", "%"}) {
        tell(c, 0, "x");
        row("a FAULT ahead", ints(c.fault(0), c.fault(1)), 1, 0);
        due("text(" + k + ")", tell(c, k, text), NONE);
        row("FAULT and place", ints(c.fault(0), c.fault(1)), 0, NONE);
        due("the tape is empty", c.end(1), false);
      }
      unchanged("text(" + k + ")", c, before, 3);
    }
    for (int k = 0; k < 4; k++) {
      due("text(" + k + ")", tell(new DomeCalendar(), k, ""), 0);
    }
  }

  @Says("or a FAULT (it stays as it was)")
  static void promise8FaultChangesNothing() {
    String[] faulty = {"block 1 of 0 west;block 1 of 0 west after 1;", "road 5;bridge 10;", "haul 1;haul 2;haul 3/0;",
      "wait 1;wait 2;wait 61;"};
    String[] short1 = {"block 1 of 0 west", "road 5", "haul 1", "wait 1"};
    String[] none = {"blok", "roads", "hau", "waits"};
    for (int k = 0; k < 4; k++) {
      DomeCalendar c = full();
      int[] before = all(c);
      int closes = c.closes();
      for (String text : new String[] {faulty[k], short1[k], none[k], "?"}) {
        due("text(" + k + ") of " + text, tell(c, k, text), NONE);
        due("the tape is empty", c.end(1), false);
      }
      unchanged("a FAULT of text " + k, c, before, 3);
      due("it closes as before", c.closes(), closes);
      due("its PLAN as before", c.plan(), 2);
    }
  }

  @Says("it stays as it was")
  static void promise8TheOtherTextBehindAFault() {
    DomeCalendar c = full();
    due("a dome that is broken off", tell(c, 0, "block 9 of 0 east;block 9 of 0 east;block"), NONE);
    text(c, 1, "hill 7;", 1);
    row("the dome as it was", ints(c.look(0), c.of(0, 0), c.of(0, 1), c.of(0, 2), c.of(1, 3), c.of(2, 0)), 3, 3, 1, 0, 1, 2);
    due("a way that is broken off", tell(c, 1, "bridge 9;bridge 9;bridge"), NONE);
    text(c, 0, "block 1 of 1 west;block 1 of 1 west;", 2);
    row("the way as it was", ints(c.look(1), c.stretch(0, 0), c.stretch(0, 1), c.stretch(1, 0)), 1, 1, 7, NONE);
    due("a law that is broken off", tell(c, 2, "haul 1;haul"), NONE);
    due("a plan that is broken off", tell(c, 3, "wait 9;wait"), NONE);
    row("lines, STEPS", looks(c, 9, 12), 2, 2);
    c.weeks(1);
    due("over the hill by the law as it was", c.look(4), 1);
    due("by the plan as it was", c.plan(), 2);
  }

  @Says("The TAPE, empty then, is TEXT k")
  static void promise8TheTapeIsEmptyThen() {
    String[] fine = {"block 1 of 0 west;", "road 5;", "haul 1;", "wait 1;"};
    for (int k = 0; k < 4; k++) {
      DomeCalendar c = new DomeCalendar();
      due("text(" + k + ")", tell(c, k, fine[k]), 1);
      due("one byte", c.end(1), false);
      due("none", c.end(0), true);
      due("the empty tape is told", c.text(k), 0);
      row("BLOCKS, STRETCHES, lines, STEPS", looks(c, 0, 1, 9, 12), 0, 0, 0, 0);
    }
  }

  @Says("how many BLOCKS, STRETCHES, lines, STEPS in one telling.")
  static void promise8HowMany() {
    DomeCalendar c = new DomeCalendar();
    int[] most = {14, 8, 16, 100};
    String[] one = {"block1of0west;", "river 5;", "haul 3;", ""};
    for (int k = 0; k < 3; k++) {
      for (int n : ints(0, 1, 2, most[k] - 1, most[k])) {
        text(c, k, one[k].repeat(n), n);
        due("look", c.look(k == 2 ? 9 : k), n);
      }
      due("one too many", tell(c, k, one[k].repeat(most[k] + 1)), NONE);
      due("as it was", c.look(k == 2 ? 9 : k), most[k]);
    }
  }

  @Says("STEPS in one telling")
  static void promise8HowManySteps() {
    DomeCalendar c = new DomeCalendar();
    text(c, 3, "", 0);
    text(c, 3, "again 9()", 0);
    text(c, 3, "wait 60;", 1);
    text(c, 3, "again 1(wait 60;)", 1);
    text(c, 3, "again 9(wait 1;)", 9);
    text(c, 3, "again 9(again 9(wait 1;))", 81);
    text(c, 3, "again 9(again 9(wait 1;)again 2(hire 1;))", 99);
    text(c, 3, "again 9(again 9(wait 1;)again 2(hire 1;))sell 1;", 100);
    due("101", tell(c, 3, "again 9(again 9(wait 1;)again 2(hire 1;))sell 1;sell 1;"), NONE);
    due("as it was", c.look(12), 100);
    text(c, 3, "again 5(again 5(again 4(open 0;)))", 100);
    text(c, 3, "again 3(again 3(again 3(again 3(shut 1;))))", 81);
    due("its last step", c.plan(), 0);
    row("done", looks(c, 40, 41), 1, 0);
  }

  @Says("0 THE DOME = {block SIZE of VEIN (west | east) [after N {and N}] ;} (BLOCKS 0, 1, .. as they stand; "
      + "N: a BLOCK of a lesser number).")
  static void promise8TheDome() {
    DomeCalendar c = new DomeCalendar();
    text(c, 0, "block 1 of 0 west;block 20 of 3 east after 0;block 2 of 1 west after 1;block 19 of 2 east after 0 and 2;"
        + "block 7 of 1 east after 3 and 2 and 1 and 0;", 5);
    int[][] due = {{1, 0, 0, 0}, {20, 3, 1, 1}, {2, 1, 0, 2}, {19, 2, 1, 5}, {7, 1, 1, 15}};
    for (int b = 0; b < 5; b++) {
      row("block " + b, ints(c.of(b, 0), c.of(b, 1), c.of(b, 2), c.of(b, 3)), due[b]);
    }
    due("no sixth", c.of(5, 0), -2);
    text(c, 0, blocks(1), 1);
    row("nothing of the former one", ints(c.of(0, 0), c.of(0, 3), c.of(1, 0), c.order(1)), 1, 0, -2, NONE);
  }

  @Says("its NEIGHBOURS (a set of BLOCKS of lesser numbers)")
  static void promise8NeighboursAreASet() {
    DomeCalendar c = new DomeCalendar();
    text(c, 0, blocks(2) + "block 1 of 0 west after 1 and 1 and 1;block 1 of 0 west after 0 and 1 and 0;", 4);
    row("NEIGHBOURS", ints(c.of(0, 3), c.of(1, 3), c.of(2, 3), c.of(3, 3)), 0, 0, 2, 3);
    text(c, 0, "block1of0west;".repeat(13) + "block1of0west after 12 and 0;", 14);
    due("the last of all", c.of(13, 3), 1 << 12 | 1);
    text(c, 0, "block1of0west;".repeat(13) + "block1of0west after 0 and 1 and 2 and 3 and 4 and 5 and 6 and 7 and 8 and 9"
        + " and 10 and 11 and 12;", 14);
    due("all others", c.of(13, 3), (1 << 13) - 1);
  }

  @Says("1 THE WAY = {(road | hill | river) LENGTH ; | bridge ROOM ;}.")
  static void promise8TheWay() {
    DomeCalendar c = new DomeCalendar();
    text(c, 1, "road 1;road 99;hill 1;hill 99;river 1;river 99;bridge 1;bridge 9;", 8);
    int[][] due = {{0, 1}, {0, 99}, {1, 1}, {1, 99}, {2, 1}, {2, 99}, {3, 1}, {3, 9}};
    for (int k = 0; k < 8; k++) {
      row("stretch " + k, ints(c.stretch(k, 0), c.stretch(k, 1)), due[k]);
    }
    text(c, 1, "bridge 2;", 1);
    row("nothing of the former one", ints(c.stretch(0, 0), c.stretch(0, 1), c.stretch(1, 0)), 3, 2, NONE);
  }

  @Says("Either told: all BLOCKS are in the ROCK, of the VEIN told, nothing has WAITED, ORDER by number; THE BOOK is empty, "
      + "MUD, FALLS are 0, SINCE none, WEEK 0; all else stays.")
  static void promise8EitherTold() {
    String dome = "block 1 of 3 west;block 2 of 0 east;block 5 of 1 west;";
    for (int k = 0; k < 2; k++) {
      DomeCalendar c = make(dome, "");
      text(c, 2, "haul 4;", 1);
      text(c, 3, "hire 1;sell 1;", 2);
      settings(c, CUTTERS, 2, RAIN, 1000, SPLIT, 1000, FROST, 1, CENTRE, 1);
      c.vein(1, false);
      c.weeks(2);
      c.rank(0, 2);
      row("ahead: WEEK, MUD, FALLS, VEIN", ints(c.look(2), c.look(3), c.look(5), c.of(1, 1)), 2, 4, 1, 1);
      // One WEEK for masons, one for the thaw.
      row("ahead: WAITED, lines", ints(c.blame(0), c.blame(1), c.look(7)), 2, 1, 7);
      int state = c.look(8);
      text(c, k, k == 0 ? dome : "", k == 0 ? 3 : 0);
      row("in the rock", where(c), 0, 0, 0);
      row("of the vein told", ints(c.of(0, 1), c.of(1, 1), c.of(2, 1)), 3, 0, 1);
      row("nothing has waited", ints(c.blame(0), c.blame(1)), NONE, 0);
      order(c, 0, 1, 2);
      row("WEEK, MUD, FALLS, SINCE, lines, LAID, apart", looks(c, 2, 3, 5, 6, 7, 4, 11), 0, 0, 0, NONE, 0, 0, 0);
      row("all else stays", looks(c, 8, 9, 12, 20, 21, 23, 26, 28, 29, 31, 40, 41), state, 1, 2, 10, 120, 2, 1000, 1000, 1, 1, 1, 0);
      due("nothing to undo", c.undo(), false);
    }
  }

  @Says("SINCE none, WEEK 0")
  static void promise8EitherToldWhenSomeOrAllAreLaid() {
    for (int k = 0; k < 2; k++) {
      for (int laid = 1; laid <= 2; laid++) {
        DomeCalendar c = dome("block 3 of 0 west;block 2 of 0 west;");
        settings(c, CUTTERS, 2, MASONS, laid);
        due("laid", c.weeks(1), laid);
        row("ahead: SINCE, apart", looks(c, 6, 11), 0, laid == 1 ? 3 : 5);
        text(c, k, k == 0 ? "block 3 of 0 west;block 2 of 0 west;" : "", k == 0 ? 2 : 0);
        row("WEEK, LAID, SINCE, apart, lines", looks(c, 2, 4, 6, 11, 7), 0, 0, NONE, 0, 0);
        row("closes, can", ints(c.closes(), c.can()), laid == 1 ? 1 : 0, 0);
        settings(c, CUTTERS, 0);
        c.weeks(3);
        settings(c, CUTTERS, 2);
        due("laid anew", c.weeks(1), laid);
        row("SINCE, apart", looks(c, 6, 11), 3, laid == 1 ? 3 : 5);
      }
    }
  }

  @Says("Either told: all BLOCKS are in the ROCK")
  static void promise8TheLawAndAPlanBeginNothingAnew() {
    DomeCalendar c = full();
    int[] before = all(c);
    text(c, 2, "haul 9;haul 8;", 2);
    text(c, 3, "wait 2;hire 1;", 2);
    unchanged("telling the same law and plan", c, before, 3);
  }

  // ---- TOKENS

  @Says("TOKENS: letters as many as stand together are KEYWORDS (those told here for that text) or none;")
  static void promise8LettersTogether() {
    fine(0, "block1of2west;block 3of 1east after0;block1of0west after 0and 1;", 3);
    faulty(0, "block1of2westafter0;", 1, 9);
    faulty(0, "blockof", 1, 0);
    faulty(0, "bloc k 1 of 0 west;", 1, 0);
    faulty(0, "blockblock", 1, 0);
    faulty(1, "road 1;hillhill 1;", 1, 7);
    // A keyword of another text is none here.
    faulty(0, "road 1;", 1, 0);
    faulty(1, "block 1 of 0 west;", 1, 0);
    faulty(2, "wait 1;", 1, 0);
    faulty(3, "haul 1;", 1, 0);
    faulty(2, "haul wait;", 1, 5);
    faulty(2, "haul road;", 1, 5);
    // Letters are great ones, too: they make another word, whatever stands in it.
    for (char c : "aAzZ".toCharArray()) {
      faulty(1, " road" + c + " 1;", 1, 1);
      faulty(1, " " + c + "road 1;", 1, 1);
    }
    faulty(0, "BLOCK 1 of 0 west;", 1, 0);
    // The neighbours of the letters among the signs are none.
    for (char c : "@[`{".toCharArray()) {
      faulty(1, "road" + c + "1;", 1, 4);
    }
  }

  @Says("letters as many as stand together are KEYWORDS (those told here for that text) or none")
  static void promise8EachLetterOfAKeyword() {
    String[][] texts = {
      {"block 1 of 0 west ;", "block 1 of 0 east ;", "block1of0west;block 1 of 0 west after 0 and 0 ;"},
      {"road 1 ;", "hill 1 ;", "river 1 ;", "bridge 1 ;"},
      {"haul sort ;", "haul size ;", "haul mud ;", "haul wet ;", "haul left ;", "haul week ;", "haul grease ;", "haul oxen ;",
        "haul 1 when 1=1 or not 1=1 and 1=1 ;"},
      {"wait 1 ;", "rank 1 to 1 ;", "hire 1 ;", "sell 1 ;", "open 1 ;", "shut 1 ;", "cutters 1 ;", "masons 1 ;", "again 1 ( wait 1 ; )"}};
    for (int k = 0; k < 4; k++) {
      for (String text : texts[k]) {
        due(text, tell(new DomeCalendar(), k, text) > 0, true);
        for (int from = 0; from < text.length(); from++) {
          boolean begins = Character.isLetter(text.charAt(from)) && (from == 0 || !Character.isLetter(text.charAt(from - 1)));
          for (int i = from; begins && Character.isLetter(text.charAt(i)); i++) {
            faulty(k, text.substring(0, i) + "q" + text.substring(i + 1), 1, from);
            faulty(k, text.substring(0, i) + Character.toUpperCase(text.charAt(i)) + text.substring(i + 1), 1, from);
            faulty(k, text.substring(0, i) + "q" + text.substring(i), 1, from);
          }
        }
      }
    }
  }

  @Says("digits as many as stand together NUMBERS of 1 to 4 digits or none;")
  static void promise8NumbersOf1To4Digits() {
    for (String number : new String[] {"7", "07", "007", "0007"}) {
      DomeCalendar c = new DomeCalendar();
      text(c, 1, "road " + number + ";", 1);
      due("length", c.stretch(0, 1), 7);
    }
    faulty(1, "road ;", 1, 5);
    faulty(1, "road 00007;", 1, 5);
    faulty(1, "road 000007;", 1, 5);
    faulty(1, "road 99999999999999999999999;", 1, 5);
    faulty(1, "road 4294967297;", 1, 5);
    faulty(1, "road 0 7;", 2, 5);
    fine(2, "haul 9999;", 1);
    faulty(2, "haul 10000;", 1, 5);
    fine(2, "haul 0;", 1);
    // The neighbours of the digits among the signs are none, or no digits.
    faulty(1, "road /1;", 1, 5);
    faulty(1, "road :1;", 1, 5);
  }

  @Says("Blanks (32, 10) between.")
  static void promise8EachByteBetween() {
    for (int b = 0; b < 256; b++) {
      String text = "road" + (char) b + "5;";
      boolean letter = b >= 'a' && b <= 'z' || b >= 'A' && b <= 'Z';
      if (b == 32 || b == 10) {
        fine(1, text, 1);
      } else if (b >= '0' && b <= '9') {
        DomeCalendar c = new DomeCalendar();
        text(c, 1, text, 1);
        due("length", c.stretch(0, 1), (b - '0') * 10 + 5);
      } else {
        faulty(1, text, 1, letter ? 0 : 4);
      }
    }
    fine(1, "\n \n road\n\n5 \n;\n", 1);
    fine(1, "road5;", 1);
    faulty(1, "ro ad 5;", 1, 0);
    faulty(1, "road\t5;", 1, 4);
    faulty(1, "road\r\n5;", 1, 4);
  }

  @Says("; + - * / ( ) < = > .")
  static void promise8Signs() {
    fine(2, "haul 1+2-3*4/5 when(1<2)and(2=2)and(3>2);", 1);
    for (int b = 33; b < 127; b++) {
      String text = "haul 1" + (char) b + "2;";
      if (b >= '0' && b <= '9' || b == '+' || b == '-' || b == '*' || b == '/') {
        fine(2, text, 1);
      } else if (b == ';') {
        faulty(2, text, 1, 7);
      } else {
        faulty(2, text, 1, 6);
      }
    }
    faulty(2, "haul 1 when 1<=2;", 1, 14);
    faulty(2, "haul 1++2;", 1, 7);
  }
}
