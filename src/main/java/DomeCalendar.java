import java.util.Arrays;

/**
 * Quarrymen's calendar: the blocks of a dome, the way they are hauled, the weeks that go by, and what
 * can be told of them in thought. The document's numbered promises say what each call answers.
 */
public final class DomeCalendar {
  public static final int NONE = -1;

  private static final int BLOCKS = 14;
  private static final int STRETCHES = 8;
  private static final int VEINS = 4;
  private static final int LAW_LINES = 16;
  private static final int PLAN_STEPS = 100;
  private static final int TAPE_ROOM = 400;
  private static final int BOOK_LINES = 200;
  private static final int LAST_WEEK = 9999;
  private static final int WEEKS_AT_ONCE = 60;
  private static final int UNDONE = 5;
  private static final int YEAR = 52;
  private static final int HALF_YEAR = 26;

  private static final int OXEN = 0;
  private static final int GRASS = 1;
  private static final int GROW = 2;
  private static final int CUTTERS = 3;
  private static final int MASONS = 4;
  private static final int GREASE = 5;
  private static final int RAIN = 6;
  private static final int FLOOD = 7;
  private static final int SPLIT = 8;
  private static final int FROST = 9;
  private static final int BALANCE = 10;
  private static final int CENTRE = 11;
  private static final int SETTINGS = 12;
  private static final int[] LEAST = {0, 0, 0, 0, 0, 0, 0, 0, 0, 1, 0, 0};
  private static final int[] MOST = {99, 9999, 99, 9, 9, 9, 1000, 1000, 1000, 52, 999, 520};
  private static final int[] AT_FIRST = {10, 100, 10, 1, 1, 0, 0, 0, 0, 52, 999, 0};
  private static final int[] HELPERS = {OXEN, GROW, CUTTERS, MASONS, GREASE};

  private static final int IN_ROCK = 0;
  private static final int CUT = 1;
  private static final int ON_WAY = 2;
  private static final int AT_DOME = 3;
  private static final int LAID = 4;

  private static final int HILL = 1;
  private static final int RIVER = 2;
  private static final int BRIDGE = 3;

  private static final int WAITS = 5;
  private static final int FOR_OXEN = 0;
  private static final int FOR_BRIDGE = 1;
  private static final int FOR_THAW = 2;
  private static final int FOR_MASONS = 3;
  private static final int FOR_OTHERS = 4;

  private static final int WAS_CUT = 0;
  private static final int WAS_OVER = 1;
  private static final int CAME_TO_DOME = 2;
  private static final int WAS_LAID = 3;
  private static final int HAS_SPLIT = 4;
  private static final int FELL = 5;

  private final Yard yard;
  private final Works works;
  private final Thought thought;
  private final Tally tally;
  private final Past past;
  private final Reader reader;
  private final Ground draftGround;
  private final Law draftLaw;
  private final Plan draftPlan;
  private Yard kept;

  public DomeCalendar() {
    yard = new Yard();
    works = new Works(yard, yard.site, yard.book, true);
    thought = new Thought(yard);
    tally = new Tally(yard.ground);
    past = new Past();
    reader = new Reader();
    draftGround = new Ground();
    draftLaw = new Law();
    draftPlan = new Plan();
    kept = null;
  }

  public int state(int v) {
    int was = yard.site.draws;
    yard.site.draws = v;
    forgetPast();
    return was;
  }

  public boolean set(int what, int v) {
    if (what < 0 || what >= SETTINGS || v < LEAST[what] || v > MOST[what]) {
      return false;
    }
    yard.site.told[what] = v;
    forgetPast();
    return true;
  }

  public boolean vein(int vein, boolean open) {
    if (vein < 0 || vein >= VEINS) {
      return false;
    }
    yard.site.open[vein] = open ? 1 : 0;
    forgetPast();
    return true;
  }

  public boolean rank(int block, int place) {
    thought.forgetSoonest();
    return yard.site.moveTo(block, place, yard.ground.blocks);
  }

  public int feed(int a, int b, int c, int d, int e) {
    return reader.takeBytes(a, b, c, d, e);
  }

  public boolean end(int n) {
    return reader.shorten(n);
  }

  public int text(int k) {
    reader.begin();
    int count = NONE;
    if (k == 0 || k == 1) {
      count = tellGround(k);
    } else if (k == 2 && draftLaw.readLines(reader)) {
      yard.law.copyFrom(draftLaw);
      count = yard.law.lines;
    } else if (k == 3 && draftPlan.readAllSteps(reader)) {
      yard.plan.copyFrom(draftPlan);
      count = yard.plan.steps;
    }
    reader.clear();
    thought.forgetSoonest();
    return count;
  }

  private int tellGround(int k) {
    draftGround.copyFrom(yard.ground);
    boolean read = k == 0 ? draftGround.readDome(reader) : draftGround.readWay(reader);
    if (!read) {
      return NONE;
    }
    yard.ground.copyFrom(draftGround);
    yard.site.startAnew(yard.ground);
    yard.book.lines = 0;
    forgetPast();
    return k == 0 ? yard.ground.blocks : yard.ground.stretches;
  }

  public int fault(int what) {
    if (what == 0) {
      return reader.fault;
    }
    return what == 1 ? reader.faultPlace : NONE;
  }

  public int weeks(int n) {
    if (n < 1 || n > WEEKS_AT_ONCE || yard.site.week + n > LAST_WEEK) {
      return NONE;
    }
    int laid = 0;
    for (int i = 0; i < n; i++) {
      past.keep(yard.site, yard.book.lines);
      laid += works.oneWeek();
    }
    thought.forgetSoonest();
    return laid;
  }

  public int plan() {
    int span = yard.plan.allWeeks();
    if (yard.site.week + span > LAST_WEEK) {
      return NONE;
    }
    works.follow(yard.plan);
    forgetPast();
    return span;
  }

  public int planned(int what) {
    if (what == 0) {
      return thought.laidBehindPlan();
    }
    return what == 1 ? thought.closeBehindPlan() : NONE;
  }

  public int of(int block, int what) {
    if (!yard.ground.hasBlock(block)) {
      return NONE - 1;
    }
    Site site = yard.site;
    boolean onWay = site.where[block] == ON_WAY;
    switch (what) {
      case 0:
        return yard.ground.size[block];
      case 1:
        return site.vein[block];
      case 2:
        return yard.ground.east[block];
      case 3:
        return yard.ground.neighbours[block];
      case 4:
        return site.where[block];
      case 5:
        return onWay ? site.stretch[block] : NONE;
      case 6:
        return onWay ? site.done[block] : NONE;
      case 7:
        return site.placeOf(block, yard.ground.blocks);
      default:
        return what >= 10 && what < 10 + WAITS ? site.waited[block * WAITS + what - 10] : NONE - 1;
    }
  }

  public int stretch(int k, int what) {
    if (!yard.ground.hasStretch(k)) {
      return NONE;
    }
    switch (what) {
      case 0:
        return yard.ground.sort[k];
      case 1:
        return yard.ground.span[k];
      case 2:
        return yard.site.countOn(k, yard.ground.blocks);
      default:
        return NONE;
    }
  }

  public int order(int place) {
    return place >= 0 && place < yard.ground.blocks ? yard.site.order[place] : NONE;
  }

  public int book(int i, int what) {
    if (i < 0 || i >= yard.book.lines) {
      return NONE;
    }
    switch (what) {
      case 0:
        return yard.book.week[i];
      case 1:
        return yard.book.block[i];
      case 2:
        return yard.book.event[i];
      case 3:
        return yard.book.stretch[i];
      default:
        return NONE;
    }
  }

  public int closes() {
    return thought.closeNow();
  }

  public int soonest(int what) {
    int place = what >= 10 ? what - 10 : NONE;
    if (what != 0 && (place < 0 || place >= yard.ground.blocks)) {
      return NONE;
    }
    int week = thought.soonestWeek();
    if (week == NONE) {
      return NONE;
    }
    return what == 0 ? week : thought.best[place];
  }

  public int slack(int block) {
    if (!yard.ground.hasBlock(block) || yard.site.where[block] != IN_ROCK) {
      return NONE;
    }
    return thought.longestHold(block);
  }

  public int spare() {
    return thought.spareSet();
  }

  public int fewest(int week) {
    return week < yard.site.week ? NONE : thought.fewestOxen(week);
  }

  public int can() {
    int set = 0;
    for (int b = 0; b < yard.ground.blocks; b++) {
      if (works.couldBeLaid(b)) {
        set |= 1 << b;
      }
    }
    return set;
  }

  public long ways(int how) {
    return how < 0 || how > 2 ? NONE : tally.countOrders(how, yard.site.told[BALANCE]);
  }

  public int chain(int block) {
    return yard.ground.hasBlock(block) ? tally.longestRow(block) : NONE;
  }

  public int took(int block, int k) {
    if (!yard.ground.hasBlock(block) || !yard.ground.hasStretch(k)) {
      return NONE;
    }
    Book book = yard.book;
    int over = book.lastBefore(book.lines, block, WAS_OVER, k);
    if (over == NONE) {
      return NONE;
    }
    int before = k == 0
        ? book.lastBefore(over, block, WAS_CUT, 0)
        : book.lastBefore(over, block, WAS_OVER, k - 1);
    return before == NONE ? NONE : book.week[over] - book.week[before];
  }

  public int blame(int what) {
    int most = 0;
    int which = NONE;
    for (int k = 0; k < WAITS; k++) {
      int sum = yard.site.waitedFor(k, yard.ground.blocks);
      if (sum > most) {
        most = sum;
        which = k;
      }
    }
    if (what == 0) {
      return which;
    }
    return what == 1 ? most : NONE;
  }

  public int herd(int n, int what) {
    if (n < 0 || n > 100 || what < 0 || what > 2) {
      return NONE;
    }
    return thought.herdBehind(n, what);
  }

  public int without(int vein) {
    return vein < 0 || vein >= VEINS ? NONE : thought.closeWithout(vein);
  }

  public int help(int what) {
    return what == 0 || what == 1 ? thought.bestHelp(what == 1) : NONE;
  }

  public boolean undo() {
    if (past.count == 0) {
      return false;
    }
    yard.book.lines = past.takeBack(yard.site);
    thought.forgetSoonest();
    return true;
  }

  public boolean image(boolean taken) {
    if (taken) {
      if (kept == null) {
        kept = new Yard();
      }
      kept.copyFrom(yard);
      return true;
    }
    if (kept == null) {
      return false;
    }
    yard.copyFrom(kept);
    forgetPast();
    return true;
  }

  public int look(int what) {
    Site site = yard.site;
    if (what >= 20 && what < 20 + SETTINGS) {
      return site.told[what - 20];
    }
    if (what >= 40 && what < 40 + VEINS) {
      return site.open[what - 40];
    }
    switch (what) {
      case 0:
        return yard.ground.blocks;
      case 1:
        return yard.ground.stretches;
      case 2:
        return site.week;
      case 3:
        return site.mud;
      case 4:
        return Integer.bitCount(site.laid);
      case 5:
        return site.falls;
      case 6:
        return site.since;
      case 7:
        return yard.book.lines;
      case 8:
        return site.draws;
      case 9:
        return yard.law.lines;
      case 10:
        return past.count;
      case 11:
        return site.tilt;
      case 12:
        return yard.plan.steps;
      default:
        return NONE - 999;
    }
  }

  private void forgetPast() {
    past.count = 0;
    thought.forgetSoonest();
  }

  /** All that THE IMAGE keeps. */
  private static final class Yard {
    final Ground ground = new Ground();
    final Law law = new Law();
    final Plan plan = new Plan();
    final Site site = new Site();
    final Book book = new Book(BOOK_LINES);

    void copyFrom(Yard other) {
      ground.copyFrom(other.ground);
      law.copyFrom(other.law);
      plan.copyFrom(other.plan);
      site.copyFrom(other.site);
      book.copyFrom(other.book);
    }
  }

  /** THE DOME and THE WAY as they were told. */
  private static final class Ground {
    int blocks = 0;
    final int[] size = new int[BLOCKS];
    final int[] vein = new int[BLOCKS];
    final int[] east = new int[BLOCKS];
    final int[] neighbours = new int[BLOCKS];
    int stretches = 0;
    final int[] sort = new int[STRETCHES];
    final int[] span = new int[STRETCHES];

    void copyFrom(Ground other) {
      blocks = other.blocks;
      System.arraycopy(other.size, 0, size, 0, BLOCKS);
      System.arraycopy(other.vein, 0, vein, 0, BLOCKS);
      System.arraycopy(other.east, 0, east, 0, BLOCKS);
      System.arraycopy(other.neighbours, 0, neighbours, 0, BLOCKS);
      stretches = other.stretches;
      System.arraycopy(other.sort, 0, sort, 0, STRETCHES);
      System.arraycopy(other.span, 0, span, 0, STRETCHES);
    }

    boolean hasBlock(int b) {
      return b >= 0 && b < blocks;
    }

    boolean hasStretch(int k) {
      return k >= 0 && k < stretches;
    }

    int allBlocks() {
      return (1 << blocks) - 1;
    }

    /** West counts up and east down, so that one sum tells how far the halves are apart. */
    int weight(int b) {
      return east[b] == 1 ? -size[b] : size[b];
    }

    int team(int b, int k) {
      if (sort[k] == RIVER) {
        return 0;
      }
      return sort[k] == HILL ? 2 * size[b] : size[b];
    }

    boolean readDome(Reader in) {
      blocks = 0;
      for (int i = 0; i <= BLOCKS; i++) {
        if (in.atEnd()) {
          return true;
        }
        if (!in.isWord("block")) {
          return in.fail(1);
        }
        if (blocks == BLOCKS) {
          return in.fail(3);
        }
        if (!readBlock(in, blocks)) {
          return false;
        }
        blocks++;
      }
      return false;
    }

    private boolean readBlock(Reader in, int b) {
      in.advance();
      if (!in.isNumber(1, 20)) {
        return false;
      }
      size[b] = in.takeNumber();
      if (!in.takeWord("of") || !in.isNumber(0, VEINS - 1)) {
        return false;
      }
      vein[b] = in.takeNumber();
      east[b] = in.isWord("east") ? 1 : 0;
      if (east[b] == 0 && !in.isWord("west")) {
        return in.fail(1);
      }
      in.advance();
      neighbours[b] = 0;
      return (!in.isWord("after") || readNeighbours(in, b)) && in.takeSign(';');
    }

    private boolean readNeighbours(Reader in, int b) {
      for (int i = 0; i < TAPE_ROOM; i++) {
        in.advance();
        if (!in.isNumber(0, b - 1)) {
          return false;
        }
        neighbours[b] |= 1 << in.takeNumber();
        if (!in.isWord("and")) {
          return true;
        }
      }
      return false;
    }

    boolean readWay(Reader in) {
      stretches = 0;
      for (int i = 0; i <= STRETCHES; i++) {
        if (in.atEnd()) {
          return true;
        }
        int kind = stretchKind(in);
        if (kind == NONE) {
          return in.fail(1);
        }
        if (stretches == STRETCHES) {
          return in.fail(3);
        }
        in.advance();
        if (!in.isNumber(1, kind == BRIDGE ? 9 : 99)) {
          return false;
        }
        sort[stretches] = kind;
        span[stretches] = in.takeNumber();
        if (!in.takeSign(';')) {
          return false;
        }
        stretches++;
      }
      return false;
    }

    private static int stretchKind(Reader in) {
      if (in.isWord("road")) {
        return 0;
      }
      if (in.isWord("hill")) {
        return HILL;
      }
      if (in.isWord("river")) {
        return RIVER;
      }
      return in.isWord("bridge") ? BRIDGE : NONE;
    }
  }

  /** The TAPE, its TOKENS in a row, and the FAULT found in it. */
  private static final class Reader {
    private static final int END = 0;
    private static final int NUMBER = 1;
    private static final int WORD = 2;
    private static final int SIGN = 3;
    private static final int NOTHING = 4;
    private static final int BLANK = 5;
    private static final int MOST_DIGITS = 4;

    private final int[] tape = new int[TAPE_ROOM];
    private int length = 0;
    private final int[] kinds = new int[TAPE_ROOM + 1];
    private final int[] starts = new int[TAPE_ROOM + 1];
    private final int[] sizes = new int[TAPE_ROOM + 1];
    private final int[] values = new int[TAPE_ROOM + 1];
    private int tokens = 0;
    private int at = 0;
    int fault = 0;
    int faultPlace = NONE;

    int takeBytes(int a, int b, int c, int d, int e) {
      if (length + 20 > TAPE_ROOM) {
        return NONE;
      }
      takeFour(a);
      takeFour(b);
      takeFour(c);
      takeFour(d);
      takeFour(e);
      return length;
    }

    private void takeFour(int v) {
      for (int shift = 24; shift >= 0 && length < TAPE_ROOM; shift -= 8) {
        tape[length] = v >>> shift & 255;
        length++;
      }
    }

    boolean shorten(int n) {
      if (n < 0 || n > length) {
        return false;
      }
      length = n;
      return true;
    }

    void clear() {
      length = 0;
    }

    void begin() {
      fault = 0;
      faultPlace = NONE;
      at = 0;
      tokens = 0;
      int before = BLANK;
      for (int i = 0; i < length; i++) {
        int kind = kindOf(tape[i]);
        if (kind == before && (kind == WORD || kind == NUMBER)) {
          lengthenToken(tape[i]);
        } else if (kind != BLANK) {
          beginToken(kind, i);
        }
        before = kind;
      }
      kinds[tokens] = END;
      starts[tokens] = length;
    }

    private static int kindOf(int c) {
      if (c >= 'a' && c <= 'z' || c >= 'A' && c <= 'Z') {
        return WORD;
      }
      if (c >= '0' && c <= '9') {
        return NUMBER;
      }
      if (c == 32 || c == 10) {
        return BLANK;
      }
      boolean sign = c >= '(' && c <= '+' || c == '-' || c == '/' || c >= ';' && c <= '>';
      return sign ? SIGN : NOTHING;
    }

    private void beginToken(int kind, int place) {
      kinds[tokens] = kind;
      starts[tokens] = place;
      sizes[tokens] = 1;
      values[tokens] = kind == NUMBER ? tape[place] - '0' : tape[place];
      tokens++;
    }

    private void lengthenToken(int c) {
      int token = Math.max(0, tokens - 1);
      sizes[token]++;
      values[token] = values[token] * 10 + c - '0';
      if (kinds[token] == NUMBER && sizes[token] > MOST_DIGITS) {
        kinds[token] = NOTHING;
      }
    }

    /** Nothing is read behind the first fault, so the one kept is the first by its place. */
    boolean fail(int what) {
      fault = what;
      faultPlace = starts[at];
      return false;
    }

    boolean atEnd() {
      return kinds[at] == END;
    }

    void advance() {
      at = Math.min(tokens, at + 1);
    }

    boolean isWord(String word) {
      int size = word.length();
      if (kinds[at] != WORD || sizes[at] != size) {
        return false;
      }
      for (int i = 0; i < size; i++) {
        if (tape[starts[at] + i] != word.charAt(i)) {
          return false;
        }
      }
      return true;
    }

    boolean isSign(char sign) {
      return kinds[at] == SIGN && values[at] == sign;
    }

    boolean isAnyNumber() {
      return kinds[at] == NUMBER;
    }

    boolean isNumber(int least, int most) {
      if (kinds[at] != NUMBER) {
        return fail(1);
      }
      return values[at] >= least && values[at] <= most || fail(2);
    }

    int takeNumber() {
      int number = values[at];
      at = Math.min(tokens, at + 1);
      return number;
    }

    boolean takeWord(String word) {
      if (!isWord(word)) {
        return fail(1);
      }
      at = Math.min(tokens, at + 1);
      return true;
    }

    boolean takeSign(char sign) {
      if (!isSign(sign)) {
        return fail(1);
      }
      at = Math.min(tokens, at + 1);
      return true;
    }
  }

  /** THE LAW OF HAULING, each line as signs behind their operands, so that one stack tells its value. */
  private static final class Law {
    static final int SORT = 0;
    static final int SIZE = 1;
    static final int MUD = 2;
    static final int WET = 3;
    static final int LEFT = 4;
    static final int WEEK = 5;
    static final int GREASE_NOW = 6;
    static final int ALL_OXEN = 7;
    private static final int NAMES = 8;
    private static final int PLUS = 8;
    private static final int MINUS = 9;
    private static final int TIMES = 10;
    private static final int PART = 11;
    private static final int LESS = 12;
    private static final int SAME = 13;
    private static final int MORE = 14;
    private static final int AND = 15;
    private static final int OR = 16;
    private static final int NOT = 17;
    private static final int FIRST_NUMBER = 100;
    private static final int OPEN_AT_ONCE = 8;
    private static final int STACK = 40;

    int lines = 0;
    private int length = 0;
    private final int[] code = new int[TAPE_ROOM];
    private final int[] lineEnd = new int[LAW_LINES];
    private final int[] stack = new int[STACK];
    final int[] known = new int[NAMES];

    void copyFrom(Law other) {
      lines = other.lines;
      length = other.length;
      System.arraycopy(other.code, 0, code, 0, TAPE_ROOM);
      System.arraycopy(other.lineEnd, 0, lineEnd, 0, LAW_LINES);
    }

    /** How far a BLOCK goes on, by what is known of it and of the WEEK. */
    int haul() {
      int i = 0;
      for (int line = 0; line < lines && line < LAW_LINES; line++) {
        int top = 0;
        for (; i < lineEnd[line]; i++) {
          int sign = code[i];
          if (sign == NOT && top >= 1) {
            stack[top - 1] = 1 - stack[top - 1];
          } else if (sign >= PLUS && sign < NOT && top >= 2) {
            top--;
            stack[top - 1] = joined(sign, stack[top - 1], stack[top]);
          } else if (top < STACK) {
            stack[top] = sign >= 0 && sign < NAMES ? known[sign] : sign - FIRST_NUMBER;
            top++;
          }
        }
        // A line leaves its E, and above it its B if it has one.
        if (top < 2 || stack[1] != 0) {
          return Math.max(0, Math.min(99, stack[0]));
        }
      }
      return 10;
    }

    private static int joined(int sign, int a, int b) {
      switch (sign) {
        case PLUS:
          return a + b;
        case MINUS:
          return a - b;
        case TIMES:
          return a * b;
        case PART:
          return b == 0 ? 0 : a / b;
        case LESS:
          return a < b ? 1 : 0;
        case SAME:
          return a == b ? 1 : 0;
        case MORE:
          return a > b ? 1 : 0;
        case AND:
          return a & b;
        default:
          return a | b;
      }
    }

    boolean readLines(Reader in) {
      lines = 0;
      length = 0;
      for (int i = 0; i <= LAW_LINES; i++) {
        if (in.atEnd()) {
          return true;
        }
        if (!in.isWord("haul")) {
          return in.fail(1);
        }
        if (lines == LAW_LINES) {
          return in.fail(3);
        }
        in.advance();
        if (!readSum(in)) {
          return false;
        }
        if (in.isWord("when")) {
          in.advance();
          if (!readChoice(in, 0)) {
            return false;
          }
        }
        if (!in.takeSign(';')) {
          return false;
        }
        lineEnd[lines] = length;
        lines++;
      }
      return false;
    }

    /** A {or A} with each A = C {and C}: an or is put only when the A behind it is whole. */
    private boolean readChoice(Reader in, int open) {
      boolean behindAnd = false;
      boolean behindOr = false;
      for (int i = 0; i < TAPE_ROOM; i++) {
        if (!readCondition(in, open)) {
          return false;
        }
        if (behindAnd) {
          put(AND);
        }
        behindAnd = in.isWord("and");
        if (!behindAnd) {
          if (behindOr) {
            put(OR);
          }
          behindOr = in.isWord("or");
          if (!behindOr) {
            return true;
          }
        }
        in.advance();
      }
      return false;
    }

    private boolean readCondition(Reader in, int open) {
      boolean not = in.isWord("not");
      if (not || in.isSign('(')) {
        if (open == OPEN_AT_ONCE) {
          return in.fail(3);
        }
        in.advance();
        if (!not) {
          return readChoice(in, open + 1) && in.takeSign(')');
        }
        if (!readCondition(in, open + 1)) {
          return false;
        }
        put(NOT);
        return true;
      }
      if (!readSum(in)) {
        return false;
      }
      int sign = in.isSign('<') ? LESS : in.isSign('=') ? SAME : in.isSign('>') ? MORE : NONE;
      if (sign == NONE) {
        return in.fail(1);
      }
      in.advance();
      if (!readSum(in)) {
        return false;
      }
      put(sign);
      return true;
    }

    private boolean readSum(Reader in) {
      if (!readProduct(in)) {
        return false;
      }
      for (int i = 0; i < TAPE_ROOM; i++) {
        int sign = in.isSign('+') ? PLUS : in.isSign('-') ? MINUS : NONE;
        if (sign == NONE) {
          return true;
        }
        in.advance();
        if (!readProduct(in)) {
          return false;
        }
        put(sign);
      }
      return true;
    }

    private boolean readProduct(Reader in) {
      if (!readUnit(in)) {
        return false;
      }
      for (int i = 0; i < TAPE_ROOM; i++) {
        int sign = in.isSign('*') ? TIMES : in.isSign('/') ? PART : NONE;
        if (sign == NONE) {
          return true;
        }
        in.advance();
        if (sign == PART && !in.isNumber(1, 9999) || !readUnit(in)) {
          return false;
        }
        put(sign);
      }
      return true;
    }

    private boolean readUnit(Reader in) {
      if (in.isAnyNumber()) {
        put(FIRST_NUMBER + in.takeNumber());
        return true;
      }
      int name = NONE;
      if (in.isWord("sort")) {
        name = SORT;
      } else if (in.isWord("size")) {
        name = SIZE;
      } else if (in.isWord("mud")) {
        name = MUD;
      } else if (in.isWord("wet")) {
        name = WET;
      } else if (in.isWord("left")) {
        name = LEFT;
      } else if (in.isWord("week")) {
        name = WEEK;
      } else if (in.isWord("grease")) {
        name = GREASE_NOW;
      } else if (in.isWord("oxen")) {
        name = ALL_OXEN;
      }
      if (name == NONE) {
        return in.fail(1);
      }
      put(name);
      in.advance();
      return true;
    }

    private void put(int sign) {
      if (length < TAPE_ROOM) {
        code[length] = sign;
        length++;
      }
    }
  }

  /** A PLAN, written out as it is told: what again repeats stands in it as often. */
  private static final class Plan {
    static final int WAIT = 0;
    static final int RANK = 1;
    static final int HIRE = 2;
    static final int SELL = 3;
    static final int OPEN = 4;
    static final int SHUT = 5;
    static final int SET_CUTTERS = 6;
    static final int SET_MASONS = 7;
    private static final int OPEN_AT_ONCE = 4;
    private static final int[] LEAST_N = {1, 0, 1, 1, 0, 0, 0, 0};
    private static final int[] MOST_N = {60, 13, 99, 99, 3, 3, 9, 9};

    int steps = 0;
    final int[] deed = new int[PLAN_STEPS];
    final int[] amount = new int[PLAN_STEPS];
    final int[] place = new int[PLAN_STEPS];

    void copyFrom(Plan other) {
      steps = other.steps;
      System.arraycopy(other.deed, 0, deed, 0, PLAN_STEPS);
      System.arraycopy(other.amount, 0, amount, 0, PLAN_STEPS);
      System.arraycopy(other.place, 0, place, 0, PLAN_STEPS);
    }

    int allWeeks() {
      int sum = 0;
      for (int i = 0; i < steps && i < PLAN_STEPS; i++) {
        if (deed[i] == WAIT) {
          sum += amount[i];
        }
      }
      return sum;
    }

    boolean readAllSteps(Reader in) {
      steps = 0;
      if (!readSteps(in, 0)) {
        return false;
      }
      return steps <= PLAN_STEPS || in.fail(4);
    }

    private boolean readSteps(Reader in, int open) {
      for (int i = 0; i <= TAPE_ROOM; i++) {
        if (open > 0 ? in.isSign(')') : in.atEnd()) {
          return true;
        }
        boolean read = in.isWord("again") ? readAgain(in, open) : readStep(in);
        if (!read) {
          return false;
        }
      }
      return false;
    }

    private boolean readAgain(Reader in, int open) {
      if (open == OPEN_AT_ONCE) {
        return in.fail(3);
      }
      in.advance();
      if (!in.isNumber(1, 9)) {
        return false;
      }
      int times = in.takeNumber();
      int from = steps;
      if (!in.takeSign('(') || !readSteps(in, open + 1) || !in.takeSign(')')) {
        return false;
      }
      repeat(from, times);
      return true;
    }

    /** Beyond the room steps are counted and not written: such a plan is never taken. */
    private void repeat(int from, int times) {
      int body = steps - from;
      int behind = from + body * times;
      for (int i = steps; i < behind && i < PLAN_STEPS; i++) {
        write(i, deed[i - body], amount[i - body], place[i - body]);
      }
      steps = behind;
    }

    private boolean readStep(Reader in) {
      int what = deedOf(in);
      if (what == NONE) {
        return in.fail(1);
      }
      in.advance();
      if (!in.isNumber(LEAST_N[what], MOST_N[what])) {
        return false;
      }
      int n = in.takeNumber();
      int to = 0;
      if (what == RANK) {
        if (!in.takeWord("to") || !in.isNumber(0, BLOCKS - 1)) {
          return false;
        }
        to = in.takeNumber();
      }
      write(steps, what, n, to);
      steps++;
      return in.takeSign(';');
    }

    private void write(int i, int what, int n, int to) {
      if (i >= 0 && i < PLAN_STEPS) {
        deed[i] = what;
        amount[i] = n;
        place[i] = to;
      }
    }

    private static int deedOf(Reader in) {
      if (in.isWord("wait")) {
        return WAIT;
      }
      if (in.isWord("rank")) {
        return RANK;
      }
      if (in.isWord("hire")) {
        return HIRE;
      }
      if (in.isWord("sell")) {
        return SELL;
      }
      if (in.isWord("open")) {
        return OPEN;
      }
      if (in.isWord("shut")) {
        return SHUT;
      }
      if (in.isWord("cutters")) {
        return SET_CUTTERS;
      }
      return in.isWord("masons") ? SET_MASONS : NONE;
    }
  }

  /** All that changes from WEEK to WEEK, but THE BOOK. */
  private static final class Site {
    final int[] told = AT_FIRST.clone();
    final int[] open = {1, 1, 1, 1};
    final int[] order = new int[BLOCKS];
    final int[] where = new int[BLOCKS];
    final int[] stretch = new int[BLOCKS];
    final int[] done = new int[BLOCKS];
    final int[] vein = new int[BLOCKS];
    final int[] waited = new int[BLOCKS * WAITS];
    int draws = 0;
    int mud = 0;
    int week = 0;
    int falls = 0;
    int since = NONE;
    /** The LAID ones as a set and their weight: kept, as they are asked for all the time. */
    int laid = 0;
    int tilt = 0;

    void copyFrom(Site other) {
      System.arraycopy(other.told, 0, told, 0, SETTINGS);
      System.arraycopy(other.open, 0, open, 0, VEINS);
      System.arraycopy(other.order, 0, order, 0, BLOCKS);
      System.arraycopy(other.where, 0, where, 0, BLOCKS);
      System.arraycopy(other.stretch, 0, stretch, 0, BLOCKS);
      System.arraycopy(other.done, 0, done, 0, BLOCKS);
      System.arraycopy(other.vein, 0, vein, 0, BLOCKS);
      System.arraycopy(other.waited, 0, waited, 0, BLOCKS * WAITS);
      draws = other.draws;
      mud = other.mud;
      week = other.week;
      falls = other.falls;
      since = other.since;
      laid = other.laid;
      tilt = other.tilt;
    }

    void startAnew(Ground ground) {
      for (int b = 0; b < BLOCKS; b++) {
        order[b] = b;
        where[b] = IN_ROCK;
        vein[b] = ground.vein[b];
      }
      Arrays.fill(waited, 0);
      mud = 0;
      week = 0;
      falls = 0;
      since = NONE;
      laid = 0;
      tilt = 0;
    }

    int draw(int m) {
      draws = 1664525 * draws + 1013904223;
      return m > 0 ? (draws >>> 8) % m : 0;
    }

    boolean isFrost() {
      return week % YEAR >= told[FROST];
    }

    int placeOf(int block, int blocks) {
      for (int i = 0; i < blocks; i++) {
        if (order[i] == block) {
          return i;
        }
      }
      return NONE;
    }

    boolean moveTo(int block, int place, int blocks) {
      if (block < 0 || block >= blocks || place < 0 || place >= blocks) {
        return false;
      }
      int from = placeOf(block, blocks);
      for (int i = from; i >= 0 && i < place; i++) {
        order[i] = order[i + 1];
      }
      for (int i = from; i > place; i--) {
        order[i] = order[i - 1];
      }
      order[place] = block;
      return true;
    }

    int countOn(int k, int blocks) {
      int count = 0;
      for (int b = 0; b < blocks; b++) {
        if (where[b] == ON_WAY && stretch[b] == k) {
          count++;
        }
      }
      return count;
    }

    int waitedFor(int k, int blocks) {
      int sum = 0;
      for (int b = 0; b < blocks; b++) {
        sum += waited[b * WAITS + k];
      }
      return sum;
    }

    void changeMud(boolean wet) {
      mud = wet ? Math.min(9, mud + 2) : Math.max(0, mud - 1);
    }

    void graze(boolean wet) {
      int grass = Math.min(MOST[GRASS], told[GRASS] + (wet ? 2 * told[GROW] : told[GROW]));
      int hungry = Math.max(0, told[OXEN] - grass);
      told[GRASS] = Math.max(0, grass - told[OXEN]);
      told[OXEN] -= (hungry + 1) / 2;
    }

    void turnWeek() {
      week++;
      if (week % HALF_YEAR == 0) {
        told[OXEN] = Math.min(MOST[OXEN], told[OXEN] + told[OXEN] / 5);
      }
    }
  }

  /** THE BOOK; one without room takes no lines, which is how thoughts leave none. */
  private static final class Book {
    private final int room;
    int lines = 0;
    final int[] week;
    final int[] block;
    final int[] event;
    final int[] stretch;

    Book(int size) {
      room = Math.max(0, size);
      week = new int[room];
      block = new int[room];
      event = new int[room];
      stretch = new int[room];
    }

    void copyFrom(Book other) {
      int count = Math.min(room, other.lines);
      System.arraycopy(other.week, 0, week, 0, count);
      System.arraycopy(other.block, 0, block, 0, count);
      System.arraycopy(other.event, 0, event, 0, count);
      System.arraycopy(other.stretch, 0, stretch, 0, count);
      lines = count;
    }

    void write(int inWeek, int b, int what, int k) {
      if (lines < room) {
        week[lines] = inWeek;
        block[lines] = b;
        event[lines] = what;
        stretch[lines] = k;
        lines++;
      }
    }

    int lastBefore(int line, int b, int what, int k) {
      for (int i = Math.min(line, lines) - 1; i >= 0; i--) {
        if (block[i] == b && event[i] == what && stretch[i] == k) {
          return i;
        }
      }
      return NONE;
    }
  }

  /** The WEEKS that can be undone. */
  private static final class Past {
    private final Site[] sites = new Site[UNDONE];
    private final int[] lines = new int[UNDONE];
    private int next = 0;
    int count = 0;

    Past() {
      for (int i = 0; i < UNDONE; i++) {
        sites[i] = new Site();
      }
    }

    void keep(Site site, int bookLines) {
      sites[next].copyFrom(site);
      lines[next] = bookLines;
      next = (next + 1) % UNDONE;
      count = Math.min(UNDONE, count + 1);
    }

    /** Answers how many lines THE BOOK had then. */
    int takeBack(Site site) {
      next = (next + UNDONE - 1) % UNDONE;
      count--;
      site.copyFrom(sites[next]);
      return lines[next];
    }
  }

  /** What happens in a WEEK: for true, with DRAWS and THE BOOK, or in thought. */
  private static final class Works {
    private static final int THOUGHT_WEEKS = 300;

    private final Ground ground;
    private final Law law;
    private final Site site;
    private final Book book;
    private final boolean real;
    private final int[] crossed = new int[STRETCHES];
    private int freeOxen = 0;
    private boolean wet = false;
    private boolean flood = false;
    int closedIn = NONE;
    int heldBlock = NONE;
    int heldUntil = 0;

    Works(Yard yard, Site site, Book book, boolean real) {
      ground = yard.ground;
      law = yard.law;
      this.site = site;
      this.book = book;
      this.real = real;
    }

    boolean allLaid() {
      return site.laid == ground.allBlocks();
    }

    /** Answers how many were LAID in it. */
    int oneWeek() {
      seeWeather();
      site.graze(wet);
      cutByOrder();
      haulByOrder();
      floodByOrder();
      boolean frost = site.isFrost();
      int count = frost ? 0 : layByOrder();
      if (count > 0 && allLaid()) {
        closedIn = site.week;
      }
      if (real) {
        countWaiting(frost ? FOR_THAW : FOR_MASONS);
      }
      if (frost && wet && site.told[SPLIT] > 0) {
        splitByNumber();
      }
      fallIfRotten();
      site.turnWeek();
      return count;
    }

    private void seeWeather() {
      int[] told = site.told;
      wet = real && told[RAIN] > 0 && site.draw(1000) < told[RAIN];
      site.changeMud(wet);
      flood = real && told[FLOOD] > 0 && site.draw(1000) < told[FLOOD];
    }

    private void cutByOrder() {
      int left = site.told[CUTTERS];
      for (int i = 0; i < ground.blocks && left > 0; i++) {
        int b = site.order[i];
        if (site.where[b] == IN_ROCK && site.open[site.vein[b]] == 1 && !isHeld(b)) {
          site.where[b] = CUT;
          book.write(site.week, b, WAS_CUT, 0);
          left--;
        }
      }
    }

    private boolean isHeld(int b) {
      return b == heldBlock && site.week < heldUntil;
    }

    private void haulByOrder() {
      freeOxen = site.told[OXEN];
      Arrays.fill(crossed, 0);
      law.known[Law.MUD] = site.mud;
      law.known[Law.WET] = wet ? 1 : 0;
      law.known[Law.WEEK] = site.week;
      law.known[Law.GREASE_NOW] = site.told[GREASE];
      law.known[Law.ALL_OXEN] = site.told[OXEN];
      for (int i = 0; i < ground.blocks; i++) {
        int b = site.order[i];
        if (site.where[b] == CUT) {
          leaveQuarry(b);
        }
        if (site.where[b] == ON_WAY && goesOver(b, site.stretch[b])) {
          comeBehind(b, site.stretch[b]);
        }
      }
    }

    private void leaveQuarry(int b) {
      if (ground.stretches == 0) {
        site.where[b] = AT_DOME;
        book.write(site.week, b, CAME_TO_DOME, 0);
      } else {
        site.where[b] = ON_WAY;
        site.stretch[b] = 0;
        site.done[b] = 0;
      }
    }

    private boolean goesOver(int b, int k) {
      int team = ground.team(b, k);
      if (team > freeOxen) {
        site.waited[b * WAITS + FOR_OXEN]++;
        return false;
      }
      boolean bridge = ground.sort[k] == BRIDGE;
      if (bridge && crossed[k] >= ground.span[k]) {
        site.waited[b * WAITS + FOR_BRIDGE]++;
        return false;
      }
      freeOxen -= team;
      if (bridge) {
        crossed[k]++;
        return true;
      }
      law.known[Law.SORT] = ground.sort[k];
      law.known[Law.SIZE] = ground.size[b];
      law.known[Law.LEFT] = ground.span[k] - site.done[b];
      site.done[b] += law.haul();
      return site.done[b] >= ground.span[k];
    }

    private void comeBehind(int b, int k) {
      book.write(site.week, b, WAS_OVER, k);
      if (k + 1 < ground.stretches) {
        site.stretch[b] = k + 1;
        site.done[b] = 0;
      } else {
        site.where[b] = AT_DOME;
        book.write(site.week, b, CAME_TO_DOME, 0);
      }
    }

    private void floodByOrder() {
      for (int i = 0; i < ground.blocks && flood; i++) {
        int b = site.order[i];
        if (site.where[b] == ON_WAY && ground.sort[site.stretch[b]] == RIVER) {
          comeBehind(b, site.stretch[b]);
        }
      }
    }

    boolean couldBeLaid(int b) {
      return site.where[b] == AT_DOME
          && (ground.neighbours[b] & ~site.laid) == 0
          && Math.abs(site.tilt + ground.weight(b)) <= site.told[BALANCE];
    }

    private int layByOrder() {
      int count = 0;
      for (int i = 0; i < ground.blocks && count < site.told[MASONS]; i++) {
        int b = site.order[i];
        if (couldBeLaid(b)) {
          site.where[b] = LAID;
          site.laid |= 1 << b;
          site.tilt += ground.weight(b);
          site.since = site.since == NONE ? site.week : site.since;
          book.write(site.week, b, WAS_LAID, 0);
          count++;
        }
      }
      return count;
    }

    private void countWaiting(int whoCould) {
      for (int b = 0; b < ground.blocks; b++) {
        if (site.where[b] == AT_DOME) {
          site.waited[b * WAITS + (couldBeLaid(b) ? whoCould : FOR_OTHERS)]++;
        }
      }
    }

    private void splitByNumber() {
      for (int b = 0; b < ground.blocks; b++) {
        boolean hewn = site.where[b] != IN_ROCK && site.where[b] != LAID;
        if (hewn && site.draw(1000) < site.told[SPLIT]) {
          site.where[b] = IN_ROCK;
          site.vein[b] = (site.vein[b] + 1) % VEINS;
          book.write(site.week, b, HAS_SPLIT, 0);
        }
      }
    }

    private void fallIfRotten() {
      int centre = site.told[CENTRE];
      if (site.laid == 0 || allLaid() || centre == 0 || site.week - site.since < centre) {
        return;
      }
      for (int b = 0; b < ground.blocks; b++) {
        if (site.where[b] == LAID) {
          site.where[b] = AT_DOME;
          book.write(site.week, b, FELL, 0);
        }
      }
      site.laid = 0;
      site.tilt = 0;
      site.falls++;
      site.since = NONE;
    }

    void follow(Plan plan) {
      for (int i = 0; i < plan.steps && i < PLAN_STEPS; i++) {
        if (plan.deed[i] == Plan.WAIT) {
          for (int n = plan.amount[i]; n > 0; n--) {
            oneWeek();
          }
        } else {
          takeStep(plan.deed[i], plan.amount[i], plan.place[i]);
        }
      }
    }

    private void takeStep(int deed, int n, int place) {
      int[] told = site.told;
      switch (deed) {
        case Plan.RANK:
          site.moveTo(n, place, ground.blocks);
          break;
        case Plan.HIRE:
          told[OXEN] = Math.min(MOST[OXEN], told[OXEN] + n);
          break;
        case Plan.SELL:
          told[OXEN] = Math.max(0, told[OXEN] - n);
          break;
        case Plan.SET_CUTTERS:
          told[CUTTERS] = n;
          break;
        case Plan.SET_MASONS:
          told[MASONS] = n;
          break;
        default:
          if (n >= 0 && n < VEINS) {
            site.open[n] = deed == Plan.OPEN ? 1 : 0;
          }
          break;
      }
    }

    /** The WEEK in which it CLOSES; NONE if that is not by the last one, or too far off. */
    int closeBy(int last) {
      if (ground.blocks == 0) {
        return NONE;
      }
      if (allLaid()) {
        int before = Math.max(0, site.week - 1);
        return before <= last ? before : NONE;
      }
      if (isHopeless(last)) {
        return NONE;
      }
      for (int i = 0; i < THOUGHT_WEEKS && site.week <= last; i++) {
        int now = site.week;
        int ahead = site.laid;
        oneWeek();
        if (allLaid()) {
          return now;
        }
        if (ahead == site.laid && isStuck(now)) {
          return NONE;
        }
      }
      return NONE;
    }

    /** Spares the WEEKS of a thought that can't close whatever comes. */
    private boolean isHopeless(int last) {
      int whole = 0;
      int need = 0;
      for (int b = 0; b < ground.blocks; b++) {
        boolean inRock = site.where[b] == IN_ROCK;
        if (inRock && (site.told[CUTTERS] == 0 || site.open[site.vein[b]] == 0)) {
          return true;
        }
        whole += ground.weight(b);
        need = Math.max(need, largestTeam(b));
      }
      if (site.told[MASONS] == 0 || Math.abs(whole) > site.told[BALANCE]) {
        return true;
      }
      return need > site.told[OXEN] && need > largestHerd(last);
    }

    private int largestTeam(int b) {
      if (site.where[b] >= AT_DOME) {
        return 0;
      }
      int need = 0;
      for (int k = site.where[b] == ON_WAY ? site.stretch[b] : 0; k < ground.stretches; k++) {
        need = Math.max(need, ground.team(b, k));
      }
      return need;
    }

    /** The herd does not ask what is hauled, so it can be led ahead alone. */
    private int largestHerd(int last) {
      int oxen = site.told[OXEN];
      int grass = site.told[GRASS];
      int week = site.week;
      int most = 0;
      for (int i = 0; i < THOUGHT_WEEKS && site.week <= last; i++) {
        site.graze(false);
        most = Math.max(most, site.told[OXEN]);
        site.turnWeek();
      }
      site.told[OXEN] = oxen;
      site.told[GRASS] = grass;
      site.week = week;
      return most;
    }

    /** Behind a WEEK in which nothing was LAID or fell: nothing ever will, if nothing else can come. */
    private boolean isStuck(int now) {
      boolean thaw = now % YEAR < site.told[FROST];
      if (!thaw || site.told[CENTRE] > 0 && site.laid != 0) {
        return false;
      }
      for (int b = 0; b < ground.blocks; b++) {
        if (site.where[b] < AT_DOME) {
          return false;
        }
      }
      return true;
    }
  }

  /** What is told IN THOUGHT: each thought begins with the site as it is, in a copy of its own. */
  private static final class Thought {
    private static final int NO_LIMIT = 1000000;
    private static final int MOST_FREE = 6;
    private static final int MOST_ORDERS = 720;
    private static final int LONGEST_HOLD = 60;

    private final Yard yard;
    private final Site site = new Site();
    private final Works works;
    private final int[] free = new int[MOST_FREE];
    private boolean soonestKnown = false;
    private int soonest = NONE;
    final int[] best = new int[BLOCKS];

    Thought(Yard real) {
      yard = real;
      works = new Works(real, site, new Book(0), false);
    }

    void forgetSoonest() {
      soonestKnown = false;
    }

    private void beginAnew() {
      site.copyFrom(yard.site);
      works.closedIn = NONE;
    }

    int closeNow() {
      beginAnew();
      return works.closeBy(NO_LIMIT);
    }

    int laidBehindPlan() {
      beginAnew();
      works.follow(yard.plan);
      return Integer.bitCount(site.laid);
    }

    int closeBehindPlan() {
      beginAnew();
      if (works.allLaid()) {
        return works.closeBy(NO_LIMIT);
      }
      works.follow(yard.plan);
      return works.closedIn != NONE ? works.closedIn : works.closeBy(NO_LIMIT);
    }

    /** Kept until something changes, as each place of that ORDER is asked for alone. */
    int soonestWeek() {
      if (soonestKnown) {
        return soonest;
      }
      soonestKnown = true;
      soonest = NONE;
      int count = gatherFree();
      boolean more = count > 0;
      for (int i = 0; i < MOST_ORDERS && more; i++) {
        beginAnew();
        putOrder(site.order, count);
        int week = works.closeBy(soonest == NONE ? NO_LIMIT : soonest - 1);
        if (week != NONE) {
          soonest = week;
          putOrder(best, count);
        }
        more = nextOrder(count);
      }
      return soonest;
    }

    /** How many are not LAID, by number in their row; 0 if they are too many. */
    private int gatherFree() {
      int count = 0;
      for (int b = 0; b < yard.ground.blocks; b++) {
        if (yard.site.where[b] != LAID) {
          if (count == MOST_FREE) {
            return 0;
          }
          free[count] = b;
          count++;
        }
      }
      return count;
    }

    private void putOrder(int[] row, int count) {
      for (int i = 0; i < count && i < MOST_FREE; i++) {
        row[i] = free[i];
      }
      int place = count;
      for (int i = 0; i < yard.ground.blocks; i++) {
        int b = yard.site.order[i];
        if (yard.site.where[b] == LAID && place < BLOCKS) {
          row[place] = b;
          place++;
        }
      }
    }

    /** The next row by number; false behind the last one. */
    private boolean nextOrder(int count) {
      int i = count - 2;
      while (i >= 0 && free[i] > free[i + 1]) {
        i--;
      }
      if (i < 0) {
        return false;
      }
      int j = count - 1;
      while (j > i && free[j] < free[i]) {
        j--;
      }
      swapFree(i, j);
      // What stands behind place i falls by number: turned round it rises.
      for (int a = i + 1; a < count + i - a; a++) {
        swapFree(a, count + i - a);
      }
      return true;
    }

    private void swapFree(int i, int j) {
      int b = free[i];
      free[i] = free[j];
      free[j] = b;
    }

    /** Longer holds can close sooner than shorter ones, so all are tried, the longest first. */
    int longestHold(int block) {
      beginAnew();
      int week = works.closeBy(NO_LIMIT);
      if (week == NONE) {
        return NONE;
      }
      int longest = 0;
      works.heldBlock = block;
      for (int hold = LONGEST_HOLD; hold > 0 && longest == 0; hold--) {
        beginAnew();
        works.heldUntil = site.week + hold;
        longest = works.closeBy(week) == NONE ? 0 : hold;
      }
      works.heldBlock = NONE;
      return longest;
    }

    int spareSet() {
      beginAnew();
      int week = works.closeBy(NO_LIMIT);
      if (week == NONE) {
        return NONE;
      }
      int set = 0;
      for (int b = 0; b < yard.ground.blocks; b++) {
        if (yard.site.where[b] != IN_ROCK && yard.site.where[b] != LAID) {
          beginAnew();
          site.where[b] = IN_ROCK;
          if (works.closeBy(week) != NONE) {
            set |= 1 << b;
          }
        }
      }
      return set;
    }

    /** More OXEN eat more, so that each number is tried. */
    int fewestOxen(int week) {
      for (int oxen = 0; oxen <= MOST[OXEN]; oxen++) {
        beginAnew();
        site.told[OXEN] = oxen;
        if (works.closeBy(week) != NONE) {
          return oxen;
        }
      }
      return NONE;
    }

    int herdBehind(int n, int what) {
      beginAnew();
      for (int i = 0; i < n; i++) {
        site.changeMud(false);
        site.graze(false);
        site.turnWeek();
      }
      return what == 2 ? site.mud : site.told[what == 0 ? OXEN : GRASS];
    }

    int closeWithout(int vein) {
      beginAnew();
      site.open[vein] = 0;
      return works.closeBy(NO_LIMIT);
    }

    int bestHelp(boolean week) {
      beginAnew();
      int soon = works.closeBy(NO_LIMIT);
      int which = NONE;
      for (int i = 0; i < HELPERS.length; i++) {
        int helper = HELPERS[i];
        beginAnew();
        if (site.told[helper] < MOST[helper]) {
          site.told[helper]++;
          int closed = works.closeBy(soon == NONE ? NO_LIMIT : soon - 1);
          if (closed != NONE) {
            soon = closed;
            which = helper;
          }
        }
      }
      return which == NONE || !week ? which : soon;
    }
  }

  /** Counts over the NEIGHBOURS as they were told. */
  private static final class Tally {
    private final Ground ground;
    private long[] orders = new long[1];
    private final int[] rows = new int[BLOCKS];

    Tally(Ground told) {
      ground = told;
    }

    int longestRow(int block) {
      for (int b = 0; b <= block && b < BLOCKS; b++) {
        rows[b] = 1;
        for (int n = 0; n < b; n++) {
          if ((ground.neighbours[b] >> n & 1) == 1) {
            rows[b] = Math.max(rows[b], rows[n] + 1);
          }
        }
      }
      return rows[block];
    }

    /** Set by set of those that are LAID: in how many orders that set can have come to be. */
    long countOrders(int how, int balance) {
      int sets = 1 << ground.blocks;
      if (orders.length < sets) {
        orders = new long[sets];
      }
      Arrays.fill(orders, 0);
      orders[0] = 1;
      int west = westSet();
      for (int set = 0; set < sets; set++) {
        if (orders[set] == 0 || how == 2 && Math.abs(tiltOf(set)) > balance) {
          orders[set] = 0;
          continue;
        }
        for (int b = 0; b < ground.blocks; b++) {
          boolean early = how == 1 && ground.east[b] == 1 && (west & ~set) != 0;
          if ((set >> b & 1) == 0 && (ground.neighbours[b] & ~set) == 0 && !early) {
            orders[set | 1 << b] += orders[set];
          }
        }
      }
      return orders[sets - 1];
    }

    private int westSet() {
      int west = 0;
      for (int b = 0; b < ground.blocks; b++) {
        if (ground.east[b] == 0) {
          west |= 1 << b;
        }
      }
      return west;
    }

    private int tiltOf(int set) {
      int tilt = 0;
      for (int b = 0; b < ground.blocks; b++) {
        if ((set >> b & 1) == 1) {
          tilt += ground.weight(b);
        }
      }
      return tilt;
    }
  }
}
