/**
 * A street of smiths whose anvils remember what has been beaten out on them.
 * The words in capitals are those of the document (shared/DOC.md).
 */
public final class AnvilStreet {
  public static final int NONE = -1, BAD = -2, NO = -3, FULL = -4;

  private static final int NOT_SO_MANY = -5;
  // Where BAD is told as -10, and what the place of a FAULT is taken from.
  private static final int TEN_BELOW = -10;

  private static final int MOST_ANVILS = 4;
  private static final int TEMPERS = 4;
  private static final int KINDS = 6;
  private static final int MOST_MEMORY = 20;
  private static final int MOST_HAND = 9;
  private static final int MOST_BLOWS = 5;
  private static final int LAST_DAY = 999;
  private static final int MOST_UP = 50;
  private static final int IMAGES = 2;
  private static final int COUNTS = 7;

  private final Street now;
  // A street to try things out on, so that an answer changes nothing.
  private final Street trial;
  // An image that was never kept is null.
  private final Street[] images;
  private final Script script;
  private final Plan plan;
  private final Market market;
  private final int[] leavings;
  private int above;
  private int below;
  private int bads;
  private int noes;
  private int fulls;

  public AnvilStreet() {
    now = new Street();
    trial = new Street();
    images = new Street[IMAGES];
    script = new Script();
    plan = new Plan();
    market = new Market();
    leavings = new int[KINDS];
    above = 0;
    below = 1;
  }

  // ---- a street

  public int street(int hand) {
    if (!isHand(hand)) {
      return refuse(BAD);
    }
    int were = now.anvils;
    now.begin(hand);
    return were;
  }

  public int anvil(int kind, int a, int b, int c, int d) {
    if (!isWithin(kind, 0, KINDS - 1) || !isMemory(a) || !isMemory(b) || !isMemory(c) || !isMemory(d)) {
      return refuse(BAD);
    }
    if (now.anvils >= MOST_ANVILS) {
      return refuse(FULL);
    }
    return now.join(kind, a, b, c, d);
  }

  public int type(int c) {
    if (!isWithin(c, 0, 127)) {
      return refuse(BAD);
    }
    return script.append(c) ? script.size : refuse(FULL);
  }

  public int clear() {
    int had = script.size;
    script.size = 0;
    return had;
  }

  public int read() {
    script.scan();
    int items = script.build(trial);
    if (items >= 0) {
      now.takeAll(trial);
    }
    return items;
  }

  // ---- days

  public int work(int anvil, int temper, int blows) {
    if (!isPlace(anvil, temper) || !isBlows(blows)) {
      return refuse(BAD);
    }
    now.remember();
    return now.beat(anvil, temper, blows);
  }

  public int day(int n) {
    if (!isWithin(n, 1, 60)) {
      return refuse(BAD);
    }
    now.remember();
    for (int i = 0; i < n; i++) {
      now.passDay();
    }
    return now.today;
  }

  public int salt(int anvil, int temper) {
    if (!isPlace(anvil, temper)) {
      return refuse(BAD);
    }
    now.remember();
    int did = now.remembered(anvil, temper);
    now.setMemory(anvil, temper, 0);
    return did;
  }

  public int hand(int h) {
    if (!isHand(h)) {
      return refuse(BAD);
    }
    now.remember();
    int was = now.grip;
    now.grip = h;
    return was;
  }

  public int undo() {
    return now.goBack() ? now.today : refuse(NO);
  }

  public int of(int anvil, int what) {
    if (!now.has(anvil) || !isWithin(what, 0, TEMPERS)) {
      return refuse(BAD);
    }
    return what == 0 ? now.kinds[anvil] : now.remembered(anvil, what - 1);
  }

  // ---- what comes up

  public int up(int anvil, int temper) {
    return isPlace(anvil, temper) ? now.risen(anvil, temper) : refuse(BAD);
  }

  public int foreign(int anvil, int temper) {
    return isPlace(anvil, temper) ? now.unwanted(anvil, temper) : refuse(BAD);
  }

  public int then(int anvil, int temper, int m) {
    if (!isPlace(anvil, temper) || !isWithin(m, 0, 90)) {
      return refuse(BAD);
    }
    int left = now.remembered(anvil, temper);
    for (int i = 0; i < m; i++) {
      left = Kinds.left(now.kinds[anvil], left, now.today + i);
    }
    return left;
  }

  public int clean(int anvil) {
    if (!now.has(anvil)) {
      return refuse(BAD);
    }
    trial.takeAnvils(now);
    for (int days = 0; days <= 90; days++) {
      if (trial.remembersNothing(anvil)) {
        return days;
      }
      trial.fade(anvil, now.today + days);
    }
    return NONE;
  }

  public int keep(int anvil) {
    if (!now.has(anvil)) {
      return refuse(BAD);
    }
    for (int h = 0; h <= MOST_HAND; h++) {
      if (now.holdsDown(anvil, h)) {
        return h;
      }
    }
    return NONE;
  }

  public int best(int temper) {
    if (!isTemper(temper)) {
      return refuse(BAD);
    }
    int best = NONE;
    int least = 0;
    int most = 0;
    for (int a = 0; a < now.anvils; a++) {
      int strange = now.unwanted(a, temper);
      int own = now.risen(a, temper);
      if (best == NONE || strange < least || (strange == least && own > most)) {
        best = a;
        least = strange;
        most = own;
      }
    }
    return best;
  }

  public int orders(int works, int n, int i) {
    if (!plan.tell(works) || !isBlows(n) || i < NONE) {
      return refuseTenBelow();
    }
    if (now.anvils == 0) {
      return NONE;
    }
    trial.takeAnvils(now);
    plan.search(trial, n);
    if (i == NONE) {
      return plan.least;
    }
    return isWithin(i, 0, plan.size - 1) ? plan.chosen[i] : NOT_SO_MANY;
  }

  public int waits(int anvil, int temper, int x, int w) {
    if (!isPlace(anvil, temper) || !isWithin(x, 0, 80) || !isWithin(w, 0, MOST_UP)) {
      return refuse(BAD);
    }
    trial.takeAnvils(now);
    for (int days = 0; days <= 30; days++) {
      if (trial.unwanted(anvil, temper) <= x && trial.risen(anvil, temper) >= w) {
        return days;
      }
      trial.fade(anvil, now.today + days);
    }
    return NONE;
  }

  // ---- what it is

  public int note(int anvil, int m, int d, int k) {
    if (!now.has(anvil) || !isMemory(m) || !isWithin(d, 0, 99) || !isMemory(k)) {
      return refuse(BAD);
    }
    return now.notes.append(anvil, m, d, k) ? now.notes.size : refuse(FULL);
  }

  public int came(int anvil, int temper, int h, int x) {
    if (!isPlace(anvil, temper) || !isHand(h) || !isWithin(x, 0, MOST_UP)) {
      return refuse(BAD);
    }
    return now.comings.append(anvil, temper, h, x) ? now.comings.size : refuse(FULL);
  }

  public int forget(int what) {
    if (!isWithin(what, 0, 1)) {
      return refuse(BAD);
    }
    Rows rows = what == 0 ? now.notes : now.comings;
    int were = rows.size;
    rows.size = 0;
    return were;
  }

  public int is(int anvil) {
    return now.has(anvil) ? kindsThatFit(anvil) : refuse(BAD);
  }

  public int look(int anvil) {
    if (!now.has(anvil)) {
      return refuse(BAD);
    }
    int fit = kindsThatFit(anvil);
    if (fit == 0) {
      return NONE;
    }
    int best = NONE;
    int fewest = KINDS + 1;
    for (int m = 1; m <= MOST_MEMORY; m++) {
      for (int d = 0; d <= 2; d++) {
        int alike = mostAlike(fit, m, d);
        if (alike < fewest) {
          fewest = alike;
          best = 10 * m + d;
        }
      }
    }
    return best;
  }

  public int memory(int anvil, int temper) {
    if (!isPlace(anvil, temper)) {
      return refuse(BAD);
    }
    int bits = 0;
    for (int m = 0; m <= MOST_MEMORY; m++) {
      if (couldRemember(anvil, temper, m)) {
        bits |= 1 << m;
      }
    }
    return bits;
  }

  public int whose(int a, int b, int c, int d) {
    if (!isUp(a) || !isUp(b) || !isUp(c) || !isUp(d)) {
      return refuse(BAD);
    }
    int bits = 0;
    for (int i = 0; i < now.anvils; i++) {
      if (now.risen(i, 0) == a && now.risen(i, 1) == b && now.risen(i, 2) == c && now.risen(i, 3) == d) {
        bits |= 1 << i;
      }
    }
    return bits;
  }

  public int two(int s, int t, int k) {
    if (!isTemper(s) || !isTemper(t) || k < NONE) {
      return refuseTenBelow();
    }
    market.open(now, s, t);
    int resting = 0;
    for (int i = 0; i < now.anvils; i++) {
      for (int j = 0; j < now.anvils; j++) {
        if (market.rests(i, j)) {
          if (resting == k) {
            return MOST_ANVILS * i + j;
          }
          resting++;
        }
      }
    }
    return k == NONE ? resting : NOT_SO_MANY;
  }

  public int frost(int anvil, int c) {
    if (!now.has(anvil) || !isWithin(c, 0, 10)) {
      return refuse(BAD);
    }
    int all = 0;
    for (int t = 0; t < TEMPERS; t++) {
      all += now.remembered(anvil, t);
    }
    setFraction(all * (10 - c), 10);
    return 1;
  }

  public int streets(int seed, int n) {
    if (!isWithin(seed, 0, 999999) || !isWithin(n, 0, 60)) {
      return refuse(BAD);
    }
    trial.takeAnvils(now);
    long x = seed;
    int strange = 0;
    for (int i = 0; i < n; i++) {
      x = (x * 1103515245L + 12345L) % 2147483648L;
      int a = (int) (x / 65536L % MOST_ANVILS);
      int t = (int) (x / 1048576L % TEMPERS);
      int blows = (int) (x / 16777216L % MOST_BLOWS) + 1;
      if (trial.has(a)) {
        strange += trial.beat(a, t, blows);
      }
      trial.fadeAll(now.today + i);
    }
    return strange;
  }

  // ---- what there is

  public long part(int what) {
    if (!isWithin(what, 0, 1)) {
      return refuse(BAD);
    }
    return what == 0 ? above : below;
  }

  public int image(int i) {
    if (!isWithin(i, 0, IMAGES - 1)) {
      return refuse(BAD);
    }
    Street kept = images[i];
    if (kept == null) {
      kept = new Street();
      images[i] = kept;
    }
    kept.takeAll(now);
    return 1;
  }

  public int from(int i) {
    if (!isWithin(i, 0, IMAGES - 1)) {
      return refuse(BAD);
    }
    Street kept = images[i];
    if (kept == null) {
      return refuse(NO);
    }
    now.takeAll(kept);
    return 1;
  }

  public int status(int what) {
    switch (what) {
      case 0:
        return bads;
      case 1:
        return noes;
      case 2:
        return fulls;
      default:
        refuse(BAD);
        return -1;
    }
  }

  public int count(int what) {
    return isWithin(what, 0, COUNTS - 1) ? tally(what) : refuse(BAD);
  }

  public long digest() {
    long h = 1321;
    for (int what = 0; what < COUNTS; what++) {
      h = mixed(h, tally(what));
    }
    for (int a = 0; a < now.anvils; a++) {
      h = mixed(h, now.kinds[a]);
      for (int t = 0; t < TEMPERS; t++) {
        h = mixed(h, now.remembered(a, t));
      }
    }
    h = mixedRows(h, now.notes);
    h = mixedRows(h, now.comings);
    return mixed(mixed(h, above), below);
  }

  // ---- helpers

  private int refuse(int reason) {
    switch (reason) {
      case BAD:
        bads++;
        break;
      case NO:
        noes++;
        break;
      default:
        fulls++;
        break;
    }
    return reason;
  }

  // A call whose BAD is told as -10 is counted as BAD all the same.
  private int refuseTenBelow() {
    refuse(BAD);
    return TEN_BELOW;
  }

  private boolean isPlace(int anvil, int temper) {
    return now.has(anvil) && isTemper(temper);
  }

  private static boolean isWithin(int value, int low, int high) {
    return value >= low && value <= high;
  }

  private static boolean isTemper(int t) {
    return isWithin(t, 0, TEMPERS - 1);
  }

  private static boolean isMemory(int m) {
    return isWithin(m, 0, MOST_MEMORY);
  }

  private static boolean isHand(int h) {
    return isWithin(h, 0, MOST_HAND);
  }

  private static boolean isBlows(int n) {
    return isWithin(n, 1, MOST_BLOWS);
  }

  private static boolean isUp(int x) {
    return isWithin(x, 0, MOST_UP);
  }

  private int tally(int what) {
    switch (what) {
      case 0:
        return now.anvils;
      case 1:
        return now.today;
      case 2:
        return now.grip;
      case 3:
        return now.notes.size;
      case 4:
        return now.comings.size;
      case 5:
        return now.past.size;
      default:
        return script.size;
    }
  }

  private static long mixed(long h, int v) {
    return 31L * h + v;
  }

  private static long mixedRows(long h, Rows rows) {
    long all = h;
    for (int i = 0; i < Rows.WIDTH * rows.size; i++) {
      all = mixed(all, rows.cells[i]);
    }
    return all;
  }

  private void setFraction(int top, int bottom) {
    int common = greatestCommon(top, bottom);
    if (common > 0) {
      above = top / common;
      below = bottom / common;
    }
  }

  private static int greatestCommon(int a, int b) {
    int x = a;
    int y = b;
    for (int i = 0; i < 1000 && y != 0; i++) {
      int rest = x % y;
      x = y;
      y = rest;
    }
    return x;
  }

  private int kindsThatFit(int anvil) {
    int bits = 0;
    for (int kind = 0; kind < KINDS; kind++) {
      if (notesFit(anvil, kind)) {
        bits |= 1 << kind;
      }
    }
    return bits;
  }

  private boolean notesFit(int anvil, int kind) {
    Rows notes = now.notes;
    for (int i = 0; i < notes.size; i++) {
      if (notes.at(i, 0) == anvil && Kinds.left(kind, notes.at(i, 1), notes.at(i, 2)) != notes.at(i, 3)) {
        return false;
      }
    }
    return true;
  }

  /** How many of the KINDS in fit leave the same of m behind DAY d, where the most do. */
  private int mostAlike(int fit, int m, int d) {
    int most = 0;
    for (int kind = 0; kind < KINDS; kind++) {
      leavings[kind] = (fit >> kind & 1) == 1 ? Kinds.left(kind, m, d) : NONE;
    }
    for (int kind = 0; kind < KINDS; kind++) {
      if (leavings[kind] != NONE) {
        most = Math.max(most, leavingAlike(leavings[kind]));
      }
    }
    return most;
  }

  private int leavingAlike(int left) {
    int alike = 0;
    for (int kind = 0; kind < KINDS; kind++) {
      if (leavings[kind] == left) {
        alike++;
      }
    }
    return alike;
  }

  private boolean couldRemember(int anvil, int temper, int m) {
    Rows comings = now.comings;
    for (int i = 0; i < comings.size; i++) {
      boolean ofBoth = comings.at(i, 0) == anvil && comings.at(i, 1) == temper;
      if (ofBoth && Kinds.risen(now.kinds[anvil], m, comings.at(i, 2)) != comings.at(i, 3)) {
        return false;
      }
    }
    return true;
  }

  /** What the KINDS say, by their numbers. */
  private static final class Kinds {
    static final int COLD = 1, OLD = 2, SALT = 3, STONE = 4, CLOTH = 5;

    static int left(int kind, int m, int d) {
      int plain = m > 0 ? m - 1 : 0;
      switch (kind) {
        case COLD:
        case CLOTH:
          return d % 2 == 0 ? plain : m;
        case OLD:
          return d % 3 == 0 ? plain : m;
        case SALT:
          return plain / 2;
        case STONE:
          return m;
        default:
          return plain;
      }
    }

    static int risen(int kind, int m, int h) {
      int plain = m > h ? m - h : 0;
      int old = m >= 1 ? plain + 1 : plain;
      switch (kind) {
        case COLD:
          return (plain + 1) / 2;
        case OLD:
          return old;
        case STONE:
          return 2 * old;
        case CLOTH:
          return m >= 10 ? 0 : (plain + 1) / 2;
        default:
          return plain;
      }
    }

    static int added(int kind, int blows) {
      switch (kind) {
        case SALT:
          return (blows + 1) / 2;
        case CLOTH:
          return 2 * blows;
        default:
          return blows;
      }
    }
  }

  /** Up to six rows of four numbers: NOTES or CAME. */
  private static final class Rows {
    static final int WIDTH = 4, MOST = 6;

    final int[] cells = new int[WIDTH * MOST];
    int size;

    boolean append(int a, int b, int c, int d) {
      if (size >= MOST) {
        return false;
      }
      int first = WIDTH * size;
      cells[first] = a;
      cells[first + 1] = b;
      cells[first + 2] = c;
      cells[first + 3] = d;
      size++;
      return true;
    }

    int at(int row, int column) {
      return cells[WIDTH * row + column];
    }

    void takeRows(Rows other) {
      System.arraycopy(other.cells, 0, cells, 0, cells.length);
      size = other.size;
    }
  }

  /** What may be undone: MEMORIES, the DAY and THE HAND, the latest last. */
  private static final class Past {
    static final int MOST = 8;

    final int[] memories = new int[MOST * MOST_ANVILS * TEMPERS];
    final int[] days = new int[MOST];
    final int[] grips = new int[MOST];
    int size;

    void append(int[] row, int day, int grip) {
      if (size >= MOST) {
        dropOldest(row.length);
      }
      System.arraycopy(row, 0, memories, size * row.length, row.length);
      days[size] = day;
      grips[size] = grip;
      size++;
    }

    void dropOldest(int width) {
      size = MOST - 1;
      System.arraycopy(memories, width, memories, 0, size * width);
      System.arraycopy(days, 1, days, 0, size);
      System.arraycopy(grips, 1, grips, 0, size);
    }

    void takePast(Past other) {
      System.arraycopy(other.memories, 0, memories, 0, memories.length);
      System.arraycopy(other.days, 0, days, 0, days.length);
      System.arraycopy(other.grips, 0, grips, 0, grips.length);
      size = other.size;
    }
  }

  /** All that an IMAGE keeps. Who calls has looked whether an ANVIL is there and a TEMPER is one. */
  private static final class Street {
    final int[] kinds = new int[MOST_ANVILS];
    final int[] memories = new int[MOST_ANVILS * TEMPERS];
    final Rows notes = new Rows();
    final Rows comings = new Rows();
    final Past past = new Past();
    int anvils;
    int today;
    int grip;

    void begin(int hand) {
      anvils = 0;
      today = 0;
      grip = hand;
      notes.size = 0;
      comings.size = 0;
      past.size = 0;
    }

    void takeAnvils(Street other) {
      System.arraycopy(other.kinds, 0, kinds, 0, kinds.length);
      System.arraycopy(other.memories, 0, memories, 0, memories.length);
      anvils = other.anvils;
      today = other.today;
      grip = other.grip;
    }

    void takeAll(Street other) {
      takeAnvils(other);
      notes.takeRows(other.notes);
      comings.takeRows(other.comings);
      past.takePast(other.past);
    }

    boolean has(int anvil) {
      return anvil >= 0 && anvil < anvils;
    }

    int join(int kind, int a, int b, int c, int d) {
      if (anvils >= MOST_ANVILS) {
        return FULL;
      }
      int number = anvils;
      anvils++;
      kinds[number] = kind;
      setMemory(number, 0, a);
      setMemory(number, 1, b);
      setMemory(number, 2, c);
      setMemory(number, 3, d);
      past.size = 0;
      return number;
    }

    int remembered(int anvil, int temper) {
      return memories[TEMPERS * anvil + temper];
    }

    void setMemory(int anvil, int temper, int m) {
      memories[TEMPERS * anvil + temper] = m;
    }

    boolean remembersNothing(int anvil) {
      for (int t = 0; t < TEMPERS; t++) {
        if (remembered(anvil, t) != 0) {
          return false;
        }
      }
      return true;
    }

    int risen(int anvil, int temper) {
      return Kinds.risen(kinds[anvil], remembered(anvil, temper), grip);
    }

    boolean holdsDown(int anvil, int hand) {
      for (int t = 0; t < TEMPERS; t++) {
        if (Kinds.risen(kinds[anvil], remembered(anvil, t), hand) != 0) {
          return false;
        }
      }
      return true;
    }

    /** FOREIGN. */
    int unwanted(int anvil, int temper) {
      int all = 0;
      for (int t = 0; t < TEMPERS; t++) {
        if (t != temper) {
          all += risen(anvil, t);
        }
      }
      return all;
    }

    /** A WORK: FOREIGN in it. */
    int beat(int anvil, int temper, int blows) {
      int strange = unwanted(anvil, temper);
      addMemory(anvil, temper, blows);
      return strange;
    }

    void addMemory(int anvil, int temper, int blows) {
      int more = remembered(anvil, temper) + Kinds.added(kinds[anvil], blows);
      setMemory(anvil, temper, Math.min(more, MOST_MEMORY));
    }

    void fade(int anvil, int day) {
      for (int t = 0; t < TEMPERS; t++) {
        setMemory(anvil, t, Kinds.left(kinds[anvil], remembered(anvil, t), day));
      }
    }

    void fadeAll(int day) {
      for (int a = 0; a < anvils; a++) {
        fade(a, day);
      }
    }

    void passDay() {
      fadeAll(today);
      today = Math.min(today + 1, LAST_DAY);
    }

    void remember() {
      past.append(memories, today, grip);
    }

    boolean goBack() {
      if (past.size <= 0) {
        return false;
      }
      past.size--;
      System.arraycopy(past.memories, past.size * memories.length, memories, 0, memories.length);
      today = past.days[past.size];
      grip = past.grips[past.size];
      return true;
    }
  }

  /** ORDERS told by figures, and the way to make them with least FOREIGN. */
  private static final class Plan {
    static final int MOST = 4;
    // More FOREIGN than any way can have: 4 times 3 times 42.
    static final int ABOVE_ALL = 1000;

    final int[] tempers = new int[MOST];
    final int[] way = new int[MOST];
    final int[] chosen = new int[MOST];
    int size;
    int blows;
    int least;

    /** Whether the figures are as told. */
    boolean tell(int works) {
      size = 0;
      if (works < 0 || works > 4444) {
        return false;
      }
      for (int unit = 1000; unit > 0; unit /= 10) {
        int figure = works / unit % 10;
        boolean aheadOfAll = figure == 0 && size == 0;
        if (!aheadOfAll) {
          if (figure < 1 || figure > TEMPERS || size >= MOST) {
            return false;
          }
          tempers[size] = figure - 1;
          size++;
        }
      }
      return true;
    }

    void search(Street street, int n) {
      blows = n;
      least = ABOVE_ALL;
      place(this, street, 0, 0);
    }

    // A way that has as much FOREIGN as the least one is left: it comes behind it.
    private static void place(Plan plan, Street street, int order, int strange) {
      if (strange >= plan.least) {
        return;
      }
      if (order >= plan.size || order >= MOST) {
        plan.least = strange;
        System.arraycopy(plan.way, 0, plan.chosen, 0, plan.way.length);
        return;
      }
      int temper = plan.tempers[order];
      for (int a = 0; a < street.anvils; a++) {
        int was = street.remembered(a, temper);
        plan.way[order] = a;
        int more = street.beat(a, temper, plan.blows);
        place(plan, street, order + 1, strange + more);
        street.setMemory(a, temper, was);
      }
    }
  }

  /** TWO smiths, and what each would get on each ANVIL alone. */
  private static final class Market {
    final int[] first = new int[MOST_ANVILS];
    final int[] second = new int[MOST_ANVILS];
    int anvils;

    void open(Street street, int s, int t) {
      anvils = street.anvils;
      for (int a = 0; a < anvils; a++) {
        first[a] = 20 - street.unwanted(a, s);
        second[a] = 20 - street.unwanted(a, t);
      }
    }

    boolean rests(int i, int j) {
      return isBestAgainst(first, i, j) && isBestAgainst(second, j, i);
    }

    private boolean isBestAgainst(int[] gains, int own, int other) {
      int gain = gained(gains, own, other);
      for (int a = 0; a < anvils; a++) {
        if (gained(gains, a, other) > gain) {
          return false;
        }
      }
      return true;
    }

    private static int gained(int[] gains, int own, int other) {
      return own == other ? gains[own] / 2 : gains[own];
    }
  }

  /** THE TEXT, its TOKENS, and the street that they tell. */
  private static final class Script {
    static final int MOST_BYTES = 150;
    static final int END = 0, STREET = 1, ANVIL = 2, WORK = 3, DAY = 4, NUMBER = 5, STOP = 6, WRONG = 7;
    static final int OTHERS = 0, FIGURES = 1, LETTERS = 2;

    final byte[] text = new byte[MOST_BYTES];
    // The last TOKEN is the END, at THE TEXT's length.
    final int[] sorts = new int[MOST_BYTES + 1];
    final int[] starts = new int[MOST_BYTES + 1];
    final int[] values = new int[MOST_BYTES + 1];
    final int[] numbers = new int[1 + TEMPERS];
    int size;
    int tokens;
    int current;

    boolean append(int c) {
      if (size >= MOST_BYTES) {
        return false;
      }
      text[size] = (byte) c;
      size++;
      return true;
    }

    void scan() {
      tokens = 0;
      int at = 0;
      while (at < size) {
        int end = endOfRun(at);
        if (text[at] != ' ') {
          addToken(sortOf(at, end), at, valueOf(at, end));
        }
        at = Math.max(end, at + 1);
      }
      addToken(END, size, 0);
    }

    private void addToken(int sort, int start, int value) {
      if (tokens <= MOST_BYTES) {
        sorts[tokens] = sort;
        starts[tokens] = start;
        values[tokens] = value;
        tokens++;
      }
    }

    private int endOfRun(int at) {
      int family = familyOf(text[at]);
      int end = at + 1;
      while (family != OTHERS && end < size && familyOf(text[end]) == family) {
        end++;
      }
      return end;
    }

    private static int familyOf(int c) {
      if (c >= '0' && c <= '9') {
        return FIGURES;
      }
      return c >= 'a' && c <= 'z' ? LETTERS : OTHERS;
    }

    private int sortOf(int at, int end) {
      switch (familyOf(text[at])) {
        case FIGURES:
          return end - at <= 2 ? NUMBER : WRONG;
        case LETTERS:
          return sortOfWord(at, end);
        default:
          return text[at] == ';' ? STOP : WRONG;
      }
    }

    private int sortOfWord(int at, int end) {
      if (isWord("street", at, end)) {
        return STREET;
      }
      if (isWord("anvil", at, end)) {
        return ANVIL;
      }
      if (isWord("work", at, end)) {
        return WORK;
      }
      return isWord("day", at, end) ? DAY : WRONG;
    }

    private boolean isWord(String word, int at, int end) {
      if (end - at != word.length()) {
        return false;
      }
      for (int i = 0; i < word.length(); i++) {
        if (text[at + i] != word.charAt(i)) {
          return false;
        }
      }
      return true;
    }

    /** What a number of one or two figures is; of no meaning for other TOKENS. */
    private int valueOf(int at, int end) {
      int last = text[end - 1] - '0';
      return end - at == 2 ? 10 * (text[at] - '0') + last : last;
    }

    /** Of TOKENS scanned: how many ITEMS, or -10 less the FAULT (the street is of no use then). */
    int build(Street street) {
      current = 0;
      if (!isNow(STREET) || !takesNumber(0, MOST_HAND)) {
        return fault();
      }
      street.begin(values[current]);
      if (!takesStop()) {
        return fault();
      }
      int items = 1;
      advance();
      while (!isNow(END) && items < MOST_BYTES) {
        if (!takesItem(street) || !takesStop()) {
          return fault();
        }
        items++;
        advance();
      }
      return items;
    }

    private void advance() {
      if (current < tokens - 1) {
        current++;
      }
    }

    private boolean isNow(int sort) {
      return sorts[current] == sort;
    }

    private int fault() {
      return TEN_BELOW - starts[current];
    }

    private boolean takesStop() {
      advance();
      return isNow(STOP);
    }

    private boolean takesNumber(int low, int high) {
      advance();
      return isNow(NUMBER) && isWithin(values[current], low, high);
    }

    private boolean takesItem(Street street) {
      switch (sorts[current]) {
        case ANVIL:
          return takesAnvil(street);
        case WORK:
          return takesWork(street);
        case DAY:
          street.passDay();
          return true;
        default:
          return false;
      }
    }

    private boolean takesAnvil(Street street) {
      if (street.anvils >= MOST_ANVILS) {
        return false;
      }
      for (int i = 0; i < numbers.length; i++) {
        if (!takesNumber(0, i == 0 ? KINDS - 1 : MOST_MEMORY)) {
          return false;
        }
        numbers[i] = values[current];
      }
      street.join(numbers[0], numbers[1], numbers[2], numbers[3], numbers[4]);
      return true;
    }

    private boolean takesWork(Street street) {
      if (!takesNumber(0, street.anvils - 1)) {
        return false;
      }
      int anvil = values[current];
      if (!takesNumber(0, TEMPERS - 1)) {
        return false;
      }
      int temper = values[current];
      if (!takesNumber(1, MOST_BLOWS)) {
        return false;
      }
      street.addMemory(anvil, temper, values[current]);
      return true;
    }
  }
}
