import java.util.ArrayList;
import java.util.Collections;
import java.util.HashMap;
import java.util.HashSet;
import java.util.List;
import java.util.Map;
import java.util.Set;
import java.util.function.Predicate;
import java.util.function.ToIntFunction;

/**
 * The document once more, as plainly as can be: trees, copies, no short cuts. OracleTest asks it and
 * DomeCalendar the same; it is far too slow and wasteful to be anything but a measure.
 */
final class Oracle {
  private static final int[] LEAST = {0, 0, 0, 0, 0, 0, 0, 0, 0, 1, 0, 0};
  private static final int[] MOST = {99, 9999, 99, 9, 9, 9, 1000, 1000, 1000, 52, 999, 520};

  private static final class Fault extends RuntimeException {
    private static final long serialVersionUID = 1L;
    final int kind;
    final int place;

    Fault(int kind, int place) {
      super(null, null, false, false);
      this.kind = kind;
      this.place = place;
    }
  }

  private static final class Block {
    int size;
    int told;
    int vein;
    boolean east;
    Set<Integer> neighbours = new HashSet<>();
    int where;
    int stretch;
    int done;
    int[] waited = new int[5];

    Block copy() {
      Block b = new Block();
      b.size = size;
      b.told = told;
      b.vein = vein;
      b.east = east;
      b.neighbours = new HashSet<>(neighbours);
      b.where = where;
      b.stretch = stretch;
      b.done = done;
      b.waited = waited.clone();
      return b;
    }
  }

  private static final class Line {
    ToIntFunction<Map<String, Integer>> e;
    Predicate<Map<String, Integer>> b;
  }

  private static final class World {
    List<Block> blocks = new ArrayList<>();
    List<int[]> way = new ArrayList<>();
    List<Integer> order = new ArrayList<>();
    boolean[] open = {true, true, true, true};
    int[] set = {10, 100, 10, 1, 1, 0, 0, 0, 0, 52, 999, 0};
    int mud;
    int week;
    int falls;
    int since = -1;
    int state;
    List<int[]> book = new ArrayList<>();
    List<Line> law = new ArrayList<>();
    List<int[]> plan = new ArrayList<>();
    boolean thought;
    int held = -1;
    int heldWeeks;
    int closedIn = -1;

    World copy() {
      World w = new World();
      for (Block b : blocks) {
        w.blocks.add(b.copy());
      }
      w.way = new ArrayList<>(way);
      w.order = new ArrayList<>(order);
      w.open = open.clone();
      w.set = set.clone();
      w.mud = mud;
      w.week = week;
      w.falls = falls;
      w.since = since;
      w.state = state;
      w.book = new ArrayList<>(book);
      w.law = law;
      w.plan = plan;
      return w;
    }

    World inThought() {
      World w = copy();
      w.thought = true;
      return w;
    }

    int draw(int m) {
      state = state * 1664525 + 1013904223;
      return (state >>> 8) % m;
    }

    void write(int block, int what, int stretch) {
      if (book.size() < 200 && !thought) {
        book.add(new int[] {week, block, what, stretch});
      }
    }

    int laidSizes(boolean east) {
      int sum = 0;
      for (Block b : blocks) {
        sum += b.where == 4 && b.east == east ? b.size : 0;
      }
      return sum;
    }

    int laidCount() {
      int n = 0;
      for (Block b : blocks) {
        n += b.where == 4 ? 1 : 0;
      }
      return n;
    }

    boolean could(Block b) {
      if (b.where != 3) {
        return false;
      }
      for (int n : b.neighbours) {
        if (blocks.get(n).where != 4) {
          return false;
        }
      }
      int west = laidSizes(false) + (b.east ? 0 : b.size);
      int east = laidSizes(true) + (b.east ? b.size : 0);
      return Math.abs(west - east) <= set[10];
    }

    void over(int n, Block b) {
      write(n, 1, b.stretch);
      b.stretch++;
      b.done = 0;
      if (b.stretch == way.size()) {
        b.where = 3;
        write(n, 2, 0);
      }
    }

    int hauled(Block b, boolean wet) {
      Map<String, Integer> m = new HashMap<>();
      m.put("sort", way.get(b.stretch)[0]);
      m.put("size", b.size);
      m.put("mud", mud);
      m.put("wet", wet ? 1 : 0);
      m.put("left", way.get(b.stretch)[1] - b.done);
      m.put("week", week);
      m.put("grease", set[5]);
      m.put("oxen", set[0]);
      for (Line l : law) {
        if (l.b == null || l.b.test(m)) {
          return Math.max(0, Math.min(99, l.e.applyAsInt(m)));
        }
      }
      return 10;
    }

    int week() {
      boolean wet = false;
      if (set[6] > 0 && !thought) {
        wet = draw(1000) < set[6];
      }
      mud = wet ? Math.min(mud + 2, 9) : Math.max(mud - 1, 0);
      boolean flood = false;
      if (set[7] > 0 && !thought) {
        flood = draw(1000) < set[7];
      }
      set[1] = Math.min(9999, set[1] + set[2] * (wet ? 2 : 1));
      if (set[1] >= set[0]) {
        set[1] -= set[0];
      } else {
        int without = set[0] - set[1];
        set[1] = 0;
        set[0] -= without / 2 + without % 2;
      }
      int cut = 0;
      for (int n : order) {
        Block b = blocks.get(n);
        boolean kept = n == held && heldWeeks > 0;
        if (cut < set[3] && b.where == 0 && open[b.vein] && !kept) {
          b.where = 1;
          write(n, 0, 0);
          cut++;
        }
      }
      heldWeeks--;
      haul(wet, flood);
      int laid = lay();
      boolean frost = week % 52 >= set[9];
      if (wet && frost && set[8] > 0 && !thought) {
        for (int n = 0; n < blocks.size(); n++) {
          Block b = blocks.get(n);
          if (b.where >= 1 && b.where <= 3 && draw(1000) < set[8]) {
            b.where = 0;
            b.vein = b.vein == 3 ? 0 : b.vein + 1;
            write(n, 4, 0);
          }
        }
      }
      if (laidCount() > 0 && laidCount() < blocks.size() && set[11] > 0 && week - since >= set[11]) {
        for (int n = 0; n < blocks.size(); n++) {
          if (blocks.get(n).where == 4) {
            blocks.get(n).where = 3;
            write(n, 5, 0);
          }
        }
        falls++;
        since = -1;
      }
      week++;
      if (week % 26 == 0) {
        set[0] = Math.min(99, set[0] + set[0] / 5);
      }
      return laid;
    }

    void haul(boolean wet, boolean flood) {
      int free = set[0];
      int[] crossed = new int[8];
      for (int n : order) {
        Block b = blocks.get(n);
        if (b.where == 1) {
          if (way.isEmpty()) {
            b.where = 3;
            write(n, 2, 0);
          } else {
            b.where = 2;
            b.stretch = 0;
            b.done = 0;
          }
        }
        if (b.where != 2) {
          continue;
        }
        int sort = way.get(b.stretch)[0];
        int team = sort == 2 ? 0 : sort == 1 ? 2 * b.size : b.size;
        if (free < team) {
          b.waited[0]++;
        } else if (sort == 3) {
          if (crossed[b.stretch] == way.get(b.stretch)[1]) {
            b.waited[1]++;
          } else {
            crossed[b.stretch]++;
            free -= team;
            over(n, b);
          }
        } else {
          free -= team;
          b.done += hauled(b, wet);
          if (b.done >= way.get(b.stretch)[1]) {
            over(n, b);
          }
        }
      }
      if (flood) {
        for (int n : order) {
          Block b = blocks.get(n);
          if (b.where == 2 && way.get(b.stretch)[0] == 2) {
            over(n, b);
          }
        }
      }
    }

    int lay() {
      boolean frost = week % 52 >= set[9];
      int laid = 0;
      if (!frost) {
        for (int n : order) {
          Block b = blocks.get(n);
          if (laid < set[4] && could(b)) {
            b.where = 4;
            laid++;
            if (since < 0) {
              since = week;
            }
            write(n, 3, 0);
          }
        }
      }
      for (Block b : blocks) {
        if (b.where == 3) {
          b.waited[could(b) ? (frost ? 2 : 3) : 4]++;
        }
      }
      if (laid > 0 && laidCount() == blocks.size()) {
        closedIn = week;
      }
      return laid;
    }

    int closes() {
      if (blocks.isEmpty()) {
        return -1;
      }
      if (laidCount() == blocks.size()) {
        return week == 0 ? 0 : week - 1;
      }
      for (int i = 0; i < 300; i++) {
        week();
        if (laidCount() == blocks.size()) {
          return week - 1;
        }
      }
      return -1;
    }

    boolean rank(int block, int place) {
      if (block < 0 || place < 0 || block >= blocks.size() || place >= blocks.size()) {
        return false;
      }
      order.remove(Integer.valueOf(block));
      order.add(place, block);
      return true;
    }

    int tell() {
      int weeks = 0;
      for (int[] s : plan) {
        switch (s[0]) {
          case 0:
            for (int i = 0; i < s[1]; i++) {
              week();
              weeks++;
            }
            break;
          case 1:
            rank(s[1], s[2]);
            break;
          case 2:
            set[0] = Math.min(99, set[0] + s[1]);
            break;
          case 3:
            set[0] = Math.max(0, set[0] - s[1]);
            break;
          case 4:
            open[s[1]] = true;
            break;
          case 5:
            open[s[1]] = false;
            break;
          case 6:
            set[3] = s[1];
            break;
          default:
            set[4] = s[1];
            break;
        }
      }
      return weeks;
    }

    void anew() {
      order.clear();
      for (int n = 0; n < blocks.size(); n++) {
        Block b = blocks.get(n);
        b.where = 0;
        b.vein = b.told;
        b.waited = new int[5];
        order.add(n);
      }
      book = new ArrayList<>();
      mud = 0;
      falls = 0;
      since = -1;
      week = 0;
    }
  }

  private World now = new World();
  private World image;
  private final List<World> past = new ArrayList<>();
  private String tape = "";
  private int faultKind;
  private int faultPlace = -1;

  // ---- texts

  private List<String> words;
  private List<Integer> places;
  private int at;

  private void scan() {
    words = new ArrayList<>();
    places = new ArrayList<>();
    at = 0;
    int i = 0;
    while (i < tape.length()) {
      char c = tape.charAt(i);
      int from = i;
      if (c == ' ' || c == '\n') {
        i++;
        continue;
      }
      if (letter(c)) {
        while (i < tape.length() && letter(tape.charAt(i))) {
          i++;
        }
      } else if (digit(c)) {
        while (i < tape.length() && digit(tape.charAt(i))) {
          i++;
        }
      } else {
        i++;
      }
      words.add(tape.substring(from, i));
      places.add(from);
    }
    words.add("");
    places.add(tape.length());
  }

  private static boolean letter(char c) {
    return c >= 'a' && c <= 'z' || c >= 'A' && c <= 'Z';
  }

  private static boolean digit(char c) {
    return c >= '0' && c <= '9';
  }

  private boolean is(String w) {
    return words.get(at).equals(w);
  }

  private Fault wrong(int kind) {
    return new Fault(kind, places.get(at));
  }

  private void eat(String w) {
    if (!is(w)) {
      throw wrong(1);
    }
    at++;
  }

  private boolean isNumber() {
    String w = words.get(at);
    return !w.isEmpty() && digit(w.charAt(0)) && w.length() <= 4;
  }

  private int number(int least, int most) {
    if (!isNumber()) {
      throw wrong(1);
    }
    int v = Integer.parseInt(words.get(at));
    if (v < least || v > most) {
      throw wrong(2);
    }
    at++;
    return v;
  }

  private List<Block> dome() {
    List<Block> list = new ArrayList<>();
    while (!is("")) {
      if (!is("block")) {
        throw wrong(1);
      }
      if (list.size() == 14) {
        throw wrong(3);
      }
      at++;
      Block b = new Block();
      b.size = number(1, 20);
      eat("of");
      b.told = number(0, 3);
      b.east = is("east");
      if (!b.east) {
        eat("west");
      } else {
        at++;
      }
      if (is("after")) {
        do {
          at++;
          b.neighbours.add(number(0, list.size() - 1));
        } while (is("and"));
      }
      eat(";");
      list.add(b);
    }
    return list;
  }

  private List<int[]> theWay() {
    List<int[]> list = new ArrayList<>();
    List<String> sorts = List.of("road", "hill", "river", "bridge");
    while (!is("")) {
      int sort = sorts.indexOf(words.get(at));
      if (sort < 0) {
        throw wrong(1);
      }
      if (list.size() == 8) {
        throw wrong(3);
      }
      at++;
      int v = number(1, sort == 3 ? 9 : 99);
      eat(";");
      list.add(new int[] {sort, v});
    }
    return list;
  }

  private List<Line> law() {
    List<Line> list = new ArrayList<>();
    while (!is("")) {
      if (!is("haul")) {
        throw wrong(1);
      }
      if (list.size() == 16) {
        throw wrong(3);
      }
      at++;
      Line l = new Line();
      l.e = sum();
      if (is("when")) {
        at++;
        l.b = any(0);
      }
      eat(";");
      list.add(l);
    }
    return list;
  }

  private Predicate<Map<String, Integer>> any(int open) {
    Predicate<Map<String, Integer>> p = all(open);
    while (is("or")) {
      at++;
      p = p.or(all(open));
    }
    return p;
  }

  private Predicate<Map<String, Integer>> all(int open) {
    Predicate<Map<String, Integer>> p = one(open);
    while (is("and")) {
      at++;
      p = p.and(one(open));
    }
    return p;
  }

  private Predicate<Map<String, Integer>> one(int open) {
    if (is("not") || is("(")) {
      if (open == 8) {
        throw wrong(3);
      }
      if (is("not")) {
        at++;
        return one(open + 1).negate();
      }
      at++;
      Predicate<Map<String, Integer>> p = any(open + 1);
      eat(")");
      return p;
    }
    ToIntFunction<Map<String, Integer>> a = sum();
    String sign = words.get(at);
    if (!is("<") && !is("=") && !is(">")) {
      throw wrong(1);
    }
    at++;
    ToIntFunction<Map<String, Integer>> b = sum();
    if (sign.equals("<")) {
      return m -> a.applyAsInt(m) < b.applyAsInt(m);
    }
    if (sign.equals("=")) {
      return m -> a.applyAsInt(m) == b.applyAsInt(m);
    }
    return m -> a.applyAsInt(m) > b.applyAsInt(m);
  }

  private ToIntFunction<Map<String, Integer>> sum() {
    ToIntFunction<Map<String, Integer>> e = product();
    while (is("+") || is("-")) {
      boolean plus = is("+");
      at++;
      ToIntFunction<Map<String, Integer>> a = e;
      ToIntFunction<Map<String, Integer>> b = product();
      e = plus ? m -> a.applyAsInt(m) + b.applyAsInt(m) : m -> a.applyAsInt(m) - b.applyAsInt(m);
    }
    return e;
  }

  private ToIntFunction<Map<String, Integer>> product() {
    ToIntFunction<Map<String, Integer>> e = unit();
    while (is("*") || is("/")) {
      ToIntFunction<Map<String, Integer>> a = e;
      if (is("*")) {
        at++;
        ToIntFunction<Map<String, Integer>> b = unit();
        e = m -> a.applyAsInt(m) * b.applyAsInt(m);
      } else {
        at++;
        int part = number(1, 9999);
        e = m -> a.applyAsInt(m) / part;
      }
    }
    return e;
  }

  private ToIntFunction<Map<String, Integer>> unit() {
    if (isNumber()) {
      int v = number(0, 9999);
      return m -> v;
    }
    String w = words.get(at);
    if (!List.of("sort", "size", "mud", "wet", "left", "week", "grease", "oxen").contains(w)) {
      throw wrong(1);
    }
    at++;
    return m -> m.get(w);
  }

  private List<int[]> steps(int open) {
    List<int[]> list = new ArrayList<>();
    List<String> deeds = List.of("wait", "rank", "hire", "sell", "open", "shut", "cutters", "masons");
    int[] least = {1, 0, 1, 1, 0, 0, 0, 0};
    int[] most = {60, 13, 99, 99, 3, 3, 9, 9};
    while (!is(open > 0 ? ")" : "")) {
      if (is("again")) {
        if (open == 4) {
          throw wrong(3);
        }
        at++;
        int times = number(1, 9);
        eat("(");
        List<int[]> body = steps(open + 1);
        eat(")");
        for (int i = 0; i < times; i++) {
          list.addAll(body);
        }
        continue;
      }
      int deed = deeds.indexOf(words.get(at));
      if (deed < 0) {
        throw wrong(1);
      }
      at++;
      int n = number(least[deed], most[deed]);
      int to = 0;
      if (deed == 1) {
        eat("to");
        to = number(0, 13);
      }
      eat(";");
      list.add(new int[] {deed, n, to});
    }
    return list;
  }

  private int tellText(int k) {
    scan();
    if (k == 0) {
      now.blocks = dome();
      now.anew();
      past.clear();
      return now.blocks.size();
    }
    if (k == 1) {
      now.way = theWay();
      now.anew();
      past.clear();
      return now.way.size();
    }
    if (k == 2) {
      now.law = law();
      return now.law.size();
    }
    List<int[]> list = steps(0);
    if (list.size() > 100) {
      throw wrong(4);
    }
    now.plan = list;
    return list.size();
  }

  // ---- the face

  int state(int v) {
    int was = now.state;
    now.state = v;
    past.clear();
    return was;
  }

  boolean set(int what, int v) {
    if (what < 0 || what > 11 || v < LEAST[what] || v > MOST[what]) {
      return false;
    }
    now.set[what] = v;
    past.clear();
    return true;
  }

  boolean vein(int vein, boolean open) {
    if (vein < 0 || vein > 3) {
      return false;
    }
    now.open[vein] = open;
    past.clear();
    return true;
  }

  boolean rank(int block, int place) {
    return now.rank(block, place);
  }

  int feed(int... numbers) {
    if (tape.length() + 20 > 400) {
      return -1;
    }
    StringBuilder s = new StringBuilder(tape);
    for (int v : numbers) {
      s.append((char) (v >>> 24)).append((char) (v >> 16 & 255)).append((char) (v >> 8 & 255)).append((char) (v & 255));
    }
    tape = s.toString();
    return tape.length();
  }

  boolean end(int n) {
    if (n < 0 || n > tape.length()) {
      return false;
    }
    tape = tape.substring(0, n);
    return true;
  }

  int text(int k) {
    faultKind = 0;
    faultPlace = -1;
    try {
      return k < 0 || k > 3 ? -1 : tellText(k);
    } catch (Fault f) {
      faultKind = f.kind;
      faultPlace = f.place;
      return -1;
    } finally {
      tape = "";
    }
  }

  int fault(int what) {
    return what == 0 ? faultKind : what == 1 ? faultPlace : -1;
  }

  int weeks(int n) {
    if (n < 1 || n > 60 || now.week + n > 9999) {
      return -1;
    }
    int laid = 0;
    for (int i = 0; i < n; i++) {
      past.add(now.copy());
      if (past.size() > 5) {
        past.remove(0);
      }
      laid += now.week();
    }
    return laid;
  }

  int plan() {
    int sum = 0;
    for (int[] s : now.plan) {
      sum += s[0] == 0 ? s[1] : 0;
    }
    if (now.week + sum > 9999) {
      return -1;
    }
    past.clear();
    return now.tell();
  }

  int planned(int what) {
    World w = now.inThought();
    if (what == 0) {
      w.tell();
      return w.laidCount();
    }
    if (what != 1) {
      return -1;
    }
    if (w.laidCount() == w.blocks.size()) {
      return w.closes();
    }
    w.tell();
    return w.closedIn >= 0 ? w.closedIn : w.closes();
  }

  int of(int block, int what) {
    if (block < 0 || block >= now.blocks.size()) {
      return -2;
    }
    Block b = now.blocks.get(block);
    if (what >= 10 && what <= 14) {
      return b.waited[what - 10];
    }
    switch (what) {
      case 0:
        return b.size;
      case 1:
        return b.vein;
      case 2:
        return b.east ? 1 : 0;
      case 3:
        int set = 0;
        for (int n : b.neighbours) {
          set += 1 << n;
        }
        return set;
      case 4:
        return b.where;
      case 5:
        return b.where == 2 ? b.stretch : -1;
      case 6:
        return b.where == 2 ? b.done : -1;
      case 7:
        return now.order.indexOf(block);
      default:
        return -2;
    }
  }

  int stretch(int k, int what) {
    if (k < 0 || k >= now.way.size() || what < 0 || what > 2) {
      return -1;
    }
    if (what < 2) {
      return now.way.get(k)[what];
    }
    int n = 0;
    for (Block b : now.blocks) {
      n += b.where == 2 && b.stretch == k ? 1 : 0;
    }
    return n;
  }

  int order(int place) {
    return place < 0 || place >= now.order.size() ? -1 : now.order.get(place);
  }

  int book(int i, int what) {
    return i < 0 || i >= now.book.size() || what < 0 || what > 3 ? -1 : now.book.get(i)[what];
  }

  int closes() {
    return now.inThought().closes();
  }

  private List<Integer> soonestOrder;
  private int soonestWeek;

  int soonest(int what) {
    List<Integer> free = new ArrayList<>();
    List<Integer> behind = new ArrayList<>();
    for (int n : now.order) {
      (now.blocks.get(n).where == 4 ? behind : free).add(n);
    }
    if (free.isEmpty() || free.size() > 6) {
      return -1;
    }
    Collections.sort(free);
    soonestOrder = null;
    soonestWeek = -1;
    permute(new ArrayList<>(), free, behind);
    if (soonestWeek < 0) {
      return -1;
    }
    if (what == 0) {
      return soonestWeek;
    }
    return what >= 10 && what - 10 < soonestOrder.size() ? soonestOrder.get(what - 10) : -1;
  }

  private void permute(List<Integer> head, List<Integer> free, List<Integer> behind) {
    if (free.isEmpty()) {
      World w = now.inThought();
      w.order = new ArrayList<>(head);
      w.order.addAll(behind);
      List<Integer> order = new ArrayList<>(w.order);
      int week = w.closes();
      if (week >= 0 && (soonestWeek < 0 || week < soonestWeek)) {
        soonestWeek = week;
        soonestOrder = order;
      }
      return;
    }
    for (int i = 0; i < free.size(); i++) {
      List<Integer> rest = new ArrayList<>(free);
      List<Integer> next = new ArrayList<>(head);
      next.add(rest.remove(i));
      permute(next, rest, behind);
    }
  }

  private static boolean noLater(int week, int than) {
    return week >= 0 && week <= than;
  }

  int slack(int block) {
    int base = closes();
    if (block < 0 || block >= now.blocks.size() || now.blocks.get(block).where != 0 || base < 0) {
      return -1;
    }
    int most = 0;
    for (int n = 0; n <= 60; n++) {
      World w = now.inThought();
      w.held = block;
      w.heldWeeks = n;
      if (noLater(w.closes(), base)) {
        most = n;
      }
    }
    return most;
  }

  int spare() {
    int base = closes();
    if (base < 0) {
      return -1;
    }
    int set = 0;
    for (int n = 0; n < now.blocks.size(); n++) {
      int where = now.blocks.get(n).where;
      World w = now.inThought();
      w.blocks.get(n).where = 0;
      if (where >= 1 && where <= 3 && noLater(w.closes(), base)) {
        set += 1 << n;
      }
    }
    return set;
  }

  int fewest(int week) {
    if (week < now.week) {
      return -1;
    }
    for (int oxen = 0; oxen <= 99; oxen++) {
      World w = now.inThought();
      w.set[0] = oxen;
      if (noLater(w.closes(), week)) {
        return oxen;
      }
    }
    return -1;
  }

  int can() {
    int set = 0;
    for (int n = 0; n < now.blocks.size(); n++) {
      set += now.could(now.blocks.get(n)) ? 1 << n : 0;
    }
    return set;
  }

  long ways(int how) {
    return how < 0 || how > 2 ? -1 : orders(how, new HashSet<>(), new HashMap<>());
  }

  private long orders(int how, Set<Integer> laid, Map<Set<Integer>, Long> known) {
    if (laid.size() == now.blocks.size()) {
      return 1;
    }
    if (known.containsKey(laid)) {
      return known.get(laid);
    }
    long sum = 0;
    for (int n = 0; n < now.blocks.size(); n++) {
      Block b = now.blocks.get(n);
      if (laid.contains(n) || !laid.containsAll(b.neighbours)) {
        continue;
      }
      int apart = 0;
      boolean westLeft = false;
      for (int k = 0; k < now.blocks.size(); k++) {
        Block o = now.blocks.get(k);
        boolean in = k == n || laid.contains(k);
        apart += in ? (o.east ? -o.size : o.size) : 0;
        westLeft |= !in && !o.east;
      }
      if (how == 1 && b.east && westLeft || how == 2 && Math.abs(apart) > now.set[10]) {
        continue;
      }
      Set<Integer> next = new HashSet<>(laid);
      next.add(n);
      sum += orders(how, next, known);
    }
    known.put(laid, sum);
    return sum;
  }

  int chain(int block) {
    if (block < 0 || block >= now.blocks.size()) {
      return -1;
    }
    int most = 0;
    for (int n : now.blocks.get(block).neighbours) {
      most = Math.max(most, chain(n));
    }
    return most + 1;
  }

  int took(int block, int k) {
    if (block < 0 || block >= now.blocks.size() || k < 0 || k >= now.way.size()) {
      return -1;
    }
    int over = -1;
    int overLine = -1;
    for (int i = 0; i < now.book.size(); i++) {
      int[] l = now.book.get(i);
      if (l[1] == block && l[2] == 1 && l[3] == k) {
        over = l[0];
        overLine = i;
      }
    }
    int before = -1;
    for (int i = 0; i < overLine; i++) {
      int[] l = now.book.get(i);
      if (l[1] == block && (k == 0 ? l[2] == 0 : l[2] == 1 && l[3] == k - 1)) {
        before = l[0];
      }
    }
    return over < 0 || before < 0 ? -1 : over - before;
  }

  int blame(int what) {
    int[] sums = new int[5];
    for (Block b : now.blocks) {
      for (int k = 0; k < 5; k++) {
        sums[k] += b.waited[k];
      }
    }
    int best = 0;
    for (int k = 1; k < 5; k++) {
      best = sums[k] > sums[best] ? k : best;
    }
    return what == 0 ? (sums[best] == 0 ? -1 : best) : what == 1 ? sums[best] : -1;
  }

  int herd(int n, int what) {
    if (n < 0 || n > 100 || what < 0 || what > 2) {
      return -1;
    }
    World w = now.inThought();
    for (int i = 0; i < n; i++) {
      w.week();
    }
    return what == 0 ? w.set[0] : what == 1 ? w.set[1] : w.mud;
  }

  int without(int vein) {
    if (vein < 0 || vein > 3) {
      return -1;
    }
    World w = now.inThought();
    w.open[vein] = false;
    return w.closes();
  }

  int help(int what) {
    if (what != 0 && what != 1) {
      return -1;
    }
    int base = closes();
    int best = -1;
    int which = -1;
    for (int k : new int[] {0, 2, 3, 4, 5}) {
      World w = now.inThought();
      if (w.set[k] == MOST[k]) {
        continue;
      }
      w.set[k]++;
      int week = w.closes();
      if (week >= 0 && (base < 0 || week < base) && (best < 0 || week < best)) {
        best = week;
        which = k;
      }
    }
    return what == 0 ? which : best;
  }

  boolean undo() {
    if (past.isEmpty()) {
      return false;
    }
    World w = past.remove(past.size() - 1);
    w.law = now.law;
    w.plan = now.plan;
    now = w;
    return true;
  }

  boolean image(boolean taken) {
    if (taken) {
      image = now.copy();
      return true;
    }
    if (image == null) {
      return false;
    }
    now = image.copy();
    past.clear();
    return true;
  }

  int look(int what) {
    if (what >= 20 && what <= 31) {
      return now.set[what - 20];
    }
    if (what >= 40 && what <= 43) {
      return now.open[what - 40] ? 1 : 0;
    }
    int[] plain = {now.blocks.size(), now.way.size(), now.week, now.mud, now.laidCount(), now.falls, now.since,
      now.book.size(), now.state, now.law.size(), past.size(), now.laidSizes(false) - now.laidSizes(true),
      now.plan.size()};
    return what >= 0 && what < plain.length ? plain[what] : -1000;
  }
}
