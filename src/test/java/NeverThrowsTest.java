import java.util.Random;

/** No call throws or hangs, whatever it is given: runs of 512 calls with wild numbers and broken texts. */
public final class NeverThrowsTest {
  private static final int[] WILD = {Integer.MIN_VALUE, Integer.MIN_VALUE + 1, -1000, -2, -1, 99, 100, 400, 401, 9999,
    10000, Integer.MAX_VALUE - 1, Integer.MAX_VALUE};
  private static final String[] WORDS = {"block ", "of ", "west", "east", ";", " after ", " and ", "road ", "hill ",
    "river ", "bridge ", "haul ", " when ", " or ", "not ", "(", ")", "+", "-", "*", "/", "<", "=", ">", "0", "1", "2",
    "3", "20", "99", "9999", "12345", "sort", "size", "mud", "wet", "left", "week", "grease", "oxen", "wait ", "rank ",
    " to ", "hire ", "sell ", "open ", "shut ", "cutters ", "masons ", "again ", "\n", "x", ".", "\t"};
  private static final String[] WHOLE = {"block 1 of 0 west;block 20 of 3 east after 0;block 5 of 1 west after 0 and 1;",
    "block 3 of 2 east;", "road 9;bridge 1;river 5;hill 3;", "river 99;", "haul left*size-oxen/3 when not(week>5 or mud<2);",
    "haul 9999*9999*week;", "wait 60;again 9(rank 2 to 0;wait 3;)shut 2;cutters 0;", "again 4(again 3(hire 9;sell 1;))"};

  private final Random dice;
  private final DomeCalendar c = new DomeCalendar();

  private NeverThrowsTest(int run) {
    dice = new Random(run);
  }

  public static void main(String[] args) {
    long sum = 0;
    for (int run = 0; run < 300; run++) {
      NeverThrowsTest t = new NeverThrowsTest(run);
      for (int i = 0; i < 512; i++) {
        sum += t.call();
      }
    }
    System.out.println("no call threw; all answers together: " + sum);
  }

  private int any() {
    int kind = dice.nextInt(8);
    return kind == 0 ? WILD[dice.nextInt(WILD.length)] : kind == 1 ? dice.nextInt() : dice.nextInt(kind < 5 ? 6 : 60) - 1;
  }

  private long call() {
    switch (dice.nextInt(33)) {
      case 0: return c.state(any());
      case 1: return c.set(dice.nextInt(14) - 1, any()) ? 1 : 0;
      case 2: return c.vein(any(), dice.nextInt(3) > 0) ? 1 : 0;
      case 3: return c.rank(any(), any()) ? 1 : 0;
      case 4: return feed();
      case 5: return c.end(any()) ? 1 : 0;
      case 6: return c.text(any());
      case 7: return c.fault(any());
      case 8: return c.weeks(any());
      case 9: return c.plan();
      case 10: return c.planned(any());
      case 11: return c.of(any(), any());
      case 12: return c.stretch(any(), any());
      case 13: return c.order(any());
      case 14: return c.book(any(), any());
      case 15: return c.closes();
      case 16: return c.soonest(dice.nextBoolean() ? any() : 10 + dice.nextInt(5));
      case 17: return c.slack(any());
      case 18: return c.spare();
      case 19: return c.fewest(any());
      case 20: return c.can();
      case 21: return c.ways(any());
      case 22: return c.chain(any());
      case 23: return c.took(any(), any());
      case 24: return c.blame(any());
      case 25: return c.herd(any(), any());
      case 26: return c.without(any());
      case 27: return c.help(any());
      case 28: return c.undo() ? 1 : 0;
      case 29: return c.image(dice.nextInt(3) == 0) ? 1 : 0;
      case 30: return c.look(any());
      default: return told();
    }
  }

  private long feed() {
    return c.feed(dice.nextInt(), any(), 0x20202020, dice.nextInt(), any());
  }

  private long told() {
    StringBuilder s = new StringBuilder();
    int kind = dice.nextInt(4);
    if (kind > 0) {
      s.append(WHOLE[dice.nextInt(WHOLE.length)]);
    }
    for (int i = kind > 1 ? 0 : dice.nextInt(40); i > 0; i--) {
      s.append(WORDS[dice.nextInt(WORDS.length)]);
    }
    c.end(0);
    Check.feed(c, s.length() > 400 ? s.substring(0, 400) : s.toString());
    long sum = 0;
    for (int k = 0; k < 4 && sum <= 0; k++) {
      sum += c.text(k);
      Check.feed(c, s.length() > 400 ? s.substring(0, 400) : s.toString());
    }
    return sum;
  }
}
