import java.util.Random;

/** Random runs of calls, asked of DomeCalendar and of the plain model of the document alike. */
public final class OracleTest {
  private static int wrong = 0;
  private static long asked = 0;

  private final Random dice;
  private final int run;
  private final DomeCalendar real = new DomeCalendar();
  private final Oracle model = new Oracle();
  private final StringBuilder told = new StringBuilder();
  private int calls = 0;
  private boolean bad = false;

  private OracleTest(int run) {
    this.run = run;
    dice = new Random(run);
  }

  public static void main(String[] args) {
    int runs = args.length > 0 ? Integer.parseInt(args[0]) : 800;
    int from = args.length > 1 ? Integer.parseInt(args[1]) : 0;
    for (int i = from; i < from + runs && wrong < 5; i++) {
      new OracleTest(i).go();
    }
    System.out.println(asked + " answers compared in " + runs + " runs, " + wrong + " runs not alike");
    if (wrong != 0) {
      System.exit(1);
    }
  }

  private void due(String call, long got, long want) {
    asked++;
    calls++;
    told.append(call).append(" -> ").append(got).append('\n');
    if (got != want && !bad) {
      bad = true;
      wrong++;
      System.out.println("run " + run + ", call " + calls + ": " + call + " answered " + got + ", the model " + want);
      System.out.println(told);
    }
  }

  private int upTo(int n) {
    return dice.nextInt(n + 1);
  }

  private boolean oneIn(int n) {
    return dice.nextInt(n) == 0;
  }

  private void go() {
    boolean heavy = oneIn(12);
    tell(0, randomDome(heavy ? 6 + upTo(8) : 1 + upTo(4)));
    tell(1, randomWay());
    if (!oneIn(3)) {
      tell(2, randomLaw());
    }
    tell(3, randomPlan());
    settings();
    for (int i = 0; i < 3 && !heavy; i++) {
      thinkAll();
      int n = 1 + upTo(2);
      due("weeks(" + n + ")", real.weeks(n), model.weeks(n));
    }
    while (calls < 220 && !bad) {
      step(heavy);
    }
  }

  private void settings() {
    if (!oneIn(3)) {
      put(0, 10 + upTo(60));
    }
    if (!oneIn(3)) {
      put(1, upTo(2000));
    }
    if (!oneIn(3)) {
      put(2, upTo(60));
    }
    put(3, oneIn(15) ? 0 : 1 + upTo(3));
    put(4, oneIn(15) ? 0 : 1 + upTo(3));
    if (oneIn(2)) {
      put(5, upTo(9));
    }
    if (oneIn(2)) {
      put(6, upTo(1000));
    }
    if (oneIn(2)) {
      put(7, upTo(600));
    }
    if (oneIn(2)) {
      put(8, upTo(1000));
    }
    if (oneIn(2)) {
      put(9, 1 + upTo(51));
    }
    if (oneIn(2)) {
      put(10, upTo(40));
    }
    if (oneIn(2)) {
      put(11, upTo(20));
    }
    int v = dice.nextInt();
    due("state(" + v + ")", real.state(v), model.state(v));
  }

  private void put(int what, int v) {
    due("set(" + what + ", " + v + ")", real.set(what, v) ? 1 : 0, model.set(what, v) ? 1 : 0);
  }

  private void step(boolean heavy) {
    switch (dice.nextInt(16)) {
      case 0:
      case 1:
      case 2:
      case 3:
        int n = oneIn(20) ? upTo(70) - 4 : 1 + upTo(3);
        due("weeks(" + n + ")", real.weeks(n), model.weeks(n));
        break;
      case 4:
        due("undo()", real.undo() ? 1 : 0, model.undo() ? 1 : 0);
        break;
      case 5:
        change();
        break;
      case 6:
        if (oneIn(2)) {
          boolean taken = oneIn(2);
          due("image(" + taken + ")", real.image(taken) ? 1 : 0, model.image(taken) ? 1 : 0);
        } else if (oneIn(4)) {
          due("plan()", real.plan(), model.plan());
        }
        break;
      case 7:
        if (oneIn(2)) {
          tellSomething();
        }
        break;
      case 8:
        think(heavy);
        break;
      case 9:
        if (!heavy) {
          thinkLong();
        }
        break;
      default:
        read();
        break;
    }
  }

  private void change() {
    int a = upTo(6) - 1;
    int b = upTo(6) - 1;
    switch (dice.nextInt(5)) {
      case 0:
      case 1:
        due("rank(" + a + ", " + b + ")", real.rank(a, b) ? 1 : 0, model.rank(a, b) ? 1 : 0);
        break;
      case 2:
        boolean open = !oneIn(3);
        due("vein(" + a + ", " + open + ")", real.vein(a, open) ? 1 : 0, model.vein(a, open) ? 1 : 0);
        break;
      case 3:
        put(upTo(14) - 1, oneIn(3) ? upTo(1100) - 50 : upTo(60));
        break;
      default:
        int v = dice.nextInt();
        due("state(" + v + ")", real.state(v), model.state(v));
        break;
    }
  }

  private void tellSomething() {
    int k = oneIn(12) ? upTo(8) - 2 : 2 + upTo(1);
    String text;
    switch (k) {
      case 0:
        text = randomDome(upTo(6));
        break;
      case 1:
        text = randomWay();
        break;
      case 2:
        text = randomLaw();
        break;
      default:
        text = randomPlan();
        break;
    }
    tell(k, oneIn(3) ? spoilt(text) : text);
  }

  private void think(boolean heavy) {
    int what = upTo(3) - 1;
    int n = upTo(102) - 1;
    int week = model.look(2) + upTo(60) - 5;
    int block = upTo(6) - 1;
    switch (dice.nextInt(heavy ? 6 : 8)) {
      case 0:
        due("closes()", real.closes(), model.closes());
        break;
      case 1:
        due("planned(" + what + ")", real.planned(what), model.planned(what));
        break;
      case 2:
        due("herd(" + n + ", " + what + ")", real.herd(n, what), model.herd(n, what));
        break;
      case 3:
        due("without(" + block + ")", real.without(block), model.without(block));
        break;
      case 4:
        due("spare()", real.spare(), model.spare());
        break;
      case 5:
        due("help(" + what + ")", real.help(what), model.help(what));
        break;
      case 6:
        due("slack(" + block + ")", real.slack(block), model.slack(block));
        break;
      default:
        due("fewest(" + week + ")", real.fewest(week), model.fewest(week));
        break;
    }
  }

  /** While some are still in the rock, which they are in the first weeks alone. */
  private void thinkAll() {
    for (int b = 0; b < model.look(0); b++) {
      due("slack(" + b + ")", real.slack(b), model.slack(b));
    }
    for (int v = 0; v < 4; v++) {
      due("without(" + v + ")", real.without(v), model.without(v));
    }
    int week = model.look(2) + upTo(30);
    due("closes()", real.closes(), model.closes());
    due("spare()", real.spare(), model.spare());
    due("help(0)", real.help(0), model.help(0));
    due("help(1)", real.help(1), model.help(1));
    due("fewest(" + week + ")", real.fewest(week), model.fewest(week));
    if (model.look(0) < 5) {
      for (int what : new int[] {0, 10, 11, 12, 13}) {
        due("soonest(" + what + ")", real.soonest(what), model.soonest(what));
      }
    }
  }

  private void thinkLong() {
    int left = model.look(0) - model.look(4);
    if (left > 4 && left <= 6 && !oneIn(6)) {
      return;
    }
    for (int what : new int[] {0, 10 + upTo(6), upTo(20)}) {
      due("soonest(" + what + ")", real.soonest(what), model.soonest(what));
    }
  }

  private void read() {
    int b = upTo(15) - 1;
    int k = upTo(5) - 1;
    int i = oneIn(4) ? upTo(210) - 2 : upTo(30);
    int what = upTo(17) - 1;
    switch (dice.nextInt(11)) {
      case 0:
        due("of(" + b + ", " + what + ")", real.of(b, what), model.of(b, what));
        break;
      case 1:
        due("of(" + k + ", " + (10 + k) + ")", real.of(k, 10 + k), model.of(k, 10 + k));
        break;
      case 2:
        due("stretch(" + k + ", " + (what % 5) + ")", real.stretch(k, what % 5), model.stretch(k, what % 5));
        break;
      case 3:
        due("order(" + k + ")", real.order(k), model.order(k));
        break;
      case 4:
        due("book(" + i + ", " + k + ")", real.book(i, k), model.book(i, k));
        break;
      case 5:
        due("can()", real.can(), model.can());
        break;
      case 6:
        due("ways(" + k + ")", real.ways(k), model.ways(k));
        break;
      case 7:
        due("chain(" + b + ")", real.chain(b), model.chain(b));
        break;
      case 8:
        due("took(" + k + ", " + (what % 6) + ")", real.took(k, what % 6), model.took(k, what % 6));
        break;
      case 9:
        due("blame(" + k + ")", real.blame(k), model.blame(k));
        break;
      default:
        int l = upTo(48) - 2;
        due("look(" + l + ")", real.look(l), model.look(l));
        break;
    }
  }

  private void tell(int k, String text) {
    String whole = text.length() > 400 ? text.substring(0, 400) : text;
    told.append("# ").append(whole).append('\n');
    int[] v = new int[5];
    for (int from = 0; from < whole.length(); from += 20) {
      for (int i = 0; i < 5; i++) {
        v[i] = 0;
        for (int j = 0; j < 4; j++) {
          int place = from + 4 * i + j;
          v[i] = v[i] << 8 | (place < whole.length() ? whole.charAt(place) : 32);
        }
      }
      due("feed(..)", real.feed(v[0], v[1], v[2], v[3], v[4]), model.feed(v));
    }
    due("end(" + whole.length() + ")", real.end(whole.length()) ? 1 : 0, model.end(whole.length()) ? 1 : 0);
    due("text(" + k + ")", real.text(k), model.text(k));
    due("fault(0)", real.fault(0), model.fault(0));
    due("fault(1)", real.fault(1), model.fault(1));
  }

  private String randomDome(int blocks) {
    StringBuilder s = new StringBuilder();
    for (int b = 0; b < blocks; b++) {
      s.append("block ").append(1 + upTo(oneIn(3) ? 19 : 7)).append(" of ").append(upTo(3));
      s.append(oneIn(2) ? " west" : " east");
      for (int i = 0, n = b == 0 ? 0 : upTo(2); i < n; i++) {
        s.append(i == 0 ? " after " : " and ").append(dice.nextInt(b));
      }
      s.append(oneIn(6) ? " ;\n" : ";");
    }
    return s.toString();
  }

  private String randomWay() {
    StringBuilder s = new StringBuilder();
    for (int i = 0, n = oneIn(10) ? upTo(8) : upTo(4); i < n; i++) {
      int sort = upTo(3);
      s.append(new String[] {"road ", "hill ", "river ", "bridge "}[sort]);
      s.append(sort == 3 ? 1 + upTo(2) : 1 + upTo(30)).append(';');
    }
    return s.toString();
  }

  private String randomLaw() {
    StringBuilder s = new StringBuilder();
    for (int i = 0, n = oneIn(10) ? 18 : upTo(3); i < n; i++) {
      s.append("haul ");
      sum(s);
      if (!oneIn(4)) {
        s.append(" when ");
        choice(s, 0);
      }
      s.append(';');
    }
    if (oneIn(2)) {
      s.append("haul 7+grease;");
    }
    return s.toString();
  }

  private void sum(StringBuilder s) {
    unit(s);
    for (int i = upTo(2); i > 0; i--) {
      switch (dice.nextInt(4)) {
        case 0:
          s.append('+');
          unit(s);
          break;
        case 1:
          s.append('-');
          unit(s);
          break;
        case 2:
          s.append('*');
          unit(s);
          break;
        default:
          s.append(" / ").append(upTo(9));
          break;
      }
    }
  }

  private void unit(StringBuilder s) {
    if (oneIn(2)) {
      s.append(oneIn(8) ? upTo(12000) : upTo(20));
    } else {
      s.append(new String[] {"sort", "size", "mud", "wet", "left", "week", "grease", "oxen"}[upTo(7)]);
    }
  }

  private void choice(StringBuilder s, int deep) {
    condition(s, deep);
    for (int i = upTo(2); i > 0; i--) {
      s.append(oneIn(2) ? " and " : " or ");
      condition(s, deep);
    }
  }

  private void condition(StringBuilder s, int deep) {
    int what = deep > 10 ? 9 : upTo(6);
    if (what == 0) {
      s.append("not ");
      condition(s, deep + 1);
    } else if (what == 1) {
      s.append('(');
      choice(s, deep + 1);
      s.append(')');
    } else {
      sum(s);
      s.append("<=>".charAt(upTo(2)));
      sum(s);
    }
  }

  private String randomPlan() {
    StringBuilder s = new StringBuilder();
    steps(s, 0);
    return s.toString();
  }

  private void steps(StringBuilder s, int deep) {
    for (int i = upTo(4); i > 0; i--) {
      switch (dice.nextInt(deep > 5 ? 6 : 8)) {
        case 0:
          s.append("wait ").append(oneIn(20) ? upTo(62) : 1 + upTo(4)).append(';');
          break;
        case 1:
          s.append("rank ").append(upTo(5)).append(" to ").append(upTo(5)).append(';');
          break;
        case 2:
          s.append(oneIn(2) ? "hire " : "sell ").append(upTo(20)).append(';');
          break;
        case 3:
          s.append(oneIn(2) ? "open " : "shut ").append(upTo(oneIn(9) ? 4 : 3)).append(';');
          break;
        case 4:
          s.append("cutters ").append(upTo(oneIn(9) ? 10 : 9)).append(';');
          break;
        case 5:
          s.append("masons ").append(upTo(oneIn(9) ? 10 : 9)).append(';');
          break;
        default:
          s.append("again ").append(1 + upTo(oneIn(9) ? 9 : 2)).append('(');
          steps(s, deep + 1);
          s.append(')');
          break;
      }
    }
  }

  private String spoilt(String text) {
    StringBuilder s = new StringBuilder(text);
    for (int i = 1 + upTo(1); i > 0 && s.length() > 0; i--) {
      int place = dice.nextInt(s.length());
      switch (dice.nextInt(4)) {
        case 0:
          s.deleteCharAt(place);
          break;
        case 1:
          s.setCharAt(place, (char) dice.nextInt(256));
          break;
        case 2:
          s.insert(place, ";+-*/()<=> 0123456789abz\n.A".charAt(dice.nextInt(27)));
          break;
        default:
          s.setLength(place);
          break;
      }
    }
    return s.toString();
  }
}
