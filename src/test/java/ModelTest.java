import java.util.Random;

/** Runs of calls, made from seeds, on the class and on the Model: each answer must be the same. */
public final class ModelTest {
  private static final int CALLS = 512;
  private static final String[] CALL_NAMES = {
    "street", "anvil", "type", "clear", "read", "work", "day", "salt", "hand", "undo", "of", "up", "foreign",
    "then", "clean", "keep", "best", "orders", "waits", "note", "came", "forget", "is", "look", "memory", "whose",
    "two", "frost", "streets", "part", "image", "from", "status", "count", "digest"};
  // How often a call comes, beside the others.
  private static final int[] WEIGHTS = {
    1, 8, 2, 1, 1, 12, 8, 4, 4, 6, 4, 6, 6,
    6, 5, 4, 5, 8, 8, 8, 8, 1, 6, 6, 6, 6,
    8, 5, 6, 4, 2, 2, 4, 5, 4};

  private final Random random;
  private final AnvilStreet x = new AnvilStreet();
  private final Model y = new Model();
  private final Check check;
  private final String run;
  // By how many of a thousand a number is any number.
  private final int wild;
  private int calls = 0;

  private ModelTest(long seed, Check check) {
    random = new Random(seed);
    this.check = check;
    run = "seed " + seed;
    wild = new int[] {0, 10, 60, 300}[random.nextInt(4)];
  }

  public static void main(String[] args) {
    int runs = args.length > 0 ? Integer.parseInt(args[0]) : 3000;
    Check check = new Check();
    for (long seed = 0; seed < runs && check.allWell(); seed++) {
      new ModelTest(seed, check).go();
    }
    check.end();
  }

  private void go() {
    int sum = 0;
    for (int w : WEIGHTS) sum += w;
    while (calls < CALLS && check.allWell()) {
      if (random.nextInt(60) == 0) typeText();
      int pick = random.nextInt(sum);
      int which = 0;
      while (pick >= WEIGHTS[which]) pick -= WEIGHTS[which++];
      call(CALL_NAMES[which]);
      if (calls < CALLS) due("digest()", x.digest(), y.digest());
    }
  }

  /** A number from low to high, most often; its edges and what is beyond them more often than by chance. */
  private int num(int low, int high) {
    if (random.nextInt(1000) < wild) {
      switch (random.nextInt(6)) {
        case 0: return low - 1;
        case 1: return high + 1;
        case 2: return Integer.MIN_VALUE;
        case 3: return Integer.MAX_VALUE;
        case 4: return -1;
        default: return random.nextInt();
      }
    }
    if (high < low) return low;
    int edge = random.nextInt(8);
    return edge == 0 ? low : edge == 1 ? high : low + random.nextInt(high - low + 1);
  }

  private int place() {
    return num(0, Math.max(0, y.s.anvils.size() - 1));
  }

  private int temper() {
    return num(0, 3);
  }

  private int works() {
    int made = 0;
    for (int i = random.nextInt(5); i > 0; i--) made = 10 * made + 1 + random.nextInt(4);
    return random.nextInt(1000) < wild ? num(0, 5000) : made;
  }

  private void due(String call, long got, long want) {
    calls++;
    check.due(run + ", call " + calls + ": " + call, got, want);
  }

  private void call(String name) {
    int a = place();
    int t = temper();
    switch (name) {
      case "street": { int h = num(0, 9); if (random.nextInt(3) == 0) due("street " + h, x.street(h), y.street(h)); break; }
      case "anvil": { int k = num(0, 5); int p = num(0, 20); int q = num(0, 20); int r = num(0, 20); int s = num(0, 20);
        due("anvil " + k + " " + p + " " + q + " " + r + " " + s, x.anvil(k, p, q, r, s), y.anvil(k, p, q, r, s)); break; }
      case "type": { int c = num(0, 127); due("type " + c, x.type(c), y.type(c)); break; }
      case "clear": due("clear", x.clear(), y.clear()); break;
      case "read": due("read", x.read(), y.read()); break;
      case "work": { int n = num(1, 5); due("work " + a + " " + t + " " + n, x.work(a, t, n), y.work(a, t, n)); break; }
      case "day": { int n = random.nextInt(3) == 0 ? num(1, 60) : num(1, 2); due("day " + n, x.day(n), y.day(n)); break; }
      case "salt": due("salt " + a + " " + t, x.salt(a, t), y.salt(a, t)); break;
      case "hand": { int h = num(0, 9); due("hand " + h, x.hand(h), y.hand(h)); break; }
      case "undo": due("undo", x.undo(), y.undo()); break;
      case "of": { int w = num(0, 4); due("of " + a + " " + w, x.of(a, w), y.of(a, w)); break; }
      case "up": due("up " + a + " " + t, x.up(a, t), y.up(a, t)); break;
      case "foreign": due("foreign " + a + " " + t, x.foreign(a, t), y.foreign(a, t)); break;
      case "then": { int m = num(0, 90); due("then " + a + " " + t + " " + m, x.then(a, t, m), y.then(a, t, m)); break; }
      case "clean": due("clean " + a, x.clean(a), y.clean(a)); break;
      case "keep": due("keep " + a, x.keep(a), y.keep(a)); break;
      case "best": due("best " + t, x.best(t), y.best(t)); break;
      case "orders": { int w = works(); int n = num(1, 5); int i = num(-1, 4);
        due("orders " + w + " " + n + " " + i, x.orders(w, n, i), y.orders(w, n, i)); break; }
      case "waits": { int f = num(0, random.nextBoolean() ? 80 : 15); int w = num(0, random.nextBoolean() ? 50 : 5);
        due("waits " + a + " " + t + " " + f + " " + w, x.waits(a, t, f, w), y.waits(a, t, f, w)); break; }
      default: callMore(name, a, t); break;
    }
  }

  private void callMore(String name, int a, int t) {
    switch (name) {
      case "note": { int m = num(0, 20); int d = num(0, 99); int k = random.nextBoolean() ? num(0, 20) : likelyLeft(m, d);
        due("note " + a + " " + m + " " + d + " " + k, x.note(a, m, d, k), y.note(a, m, d, k)); break; }
      case "came": { int h = num(0, 9); int v = random.nextInt(3) == 0 ? num(0, 50) : likelyUp(a, h);
        due("came " + a + " " + t + " " + h + " " + v, x.came(a, t, h, v), y.came(a, t, h, v)); break; }
      case "forget": { int w = num(0, 1); due("forget " + w, x.forget(w), y.forget(w)); break; }
      case "is": due("is " + a, x.is(a), y.is(a)); break;
      case "look": due("look " + a, x.look(a), y.look(a)); break;
      case "memory": due("memory " + a + " " + t, x.memory(a, t), y.memory(a, t)); break;
      case "whose": whose(a); break;
      case "two": { int q = temper(); int k = num(-1, 6); due("two " + t + " " + q + " " + k, x.two(t, q, k), y.two(t, q, k)); break; }
      case "frost": { int c = num(0, 10); due("frost " + a + " " + c, x.frost(a, c), y.frost(a, c)); break; }
      case "streets": { int seed = num(0, 999999); int n = num(0, 60);
        due("streets " + seed + " " + n, x.streets(seed, n), y.streets(seed, n)); break; }
      case "part": { int w = num(0, 1); due("part " + w, x.part(w), y.part(w)); break; }
      case "image": { int i = num(0, 1); due("image " + i, x.image(i), y.image(i)); break; }
      case "from": { int i = num(0, 1); due("from " + i, x.from(i), y.from(i)); break; }
      case "status": { int w = num(0, 2); due("status " + w, x.status(w), y.status(w)); break; }
      case "count": { int w = num(0, 6); due("count " + w, x.count(w), y.count(w)); break; }
      default: due("digest", x.digest(), y.digest()); break;
    }
  }

  private int likelyLeft(int m, int d) {
    return Model.KINDS[random.nextInt(6)].left(Math.max(0, Math.min(20, m)), Math.max(0, Math.min(99, d)));
  }

  private int likelyUp(int a, int h) {
    int kind = y.there(a) ? y.s.anvils.get(a).kind : 0;
    return Model.KINDS[kind].up(random.nextInt(21), Math.max(0, Math.min(9, h)));
  }

  private void whose(int a) {
    int[] v = {num(0, 50), num(0, 50), num(0, 50), num(0, 50)};
    if (y.there(a) && random.nextInt(3) > 0) {
      for (int t = 0; t < 4; t++) v[t] = y.s.anvils.get(a).up(t, y.s.hand);
    }
    due("whose", x.whose(v[0], v[1], v[2], v[3]), y.whose(v[0], v[1], v[2], v[3]));
  }

  /** Types a text that tells a street, or nearly, and reads it. */
  private void typeText() {
    String text = someText();
    if (calls + text.length() + 2 > CALLS) return;
    if (random.nextInt(8) != 0) due("clear", x.clear(), y.clear());
    for (int i = 0; i < text.length(); i++) {
      due("type", x.type(text.charAt(i)), y.type(text.charAt(i)));
    }
    if (calls < CALLS) due("read " + text, x.read(), y.read());
  }

  private String someText() {
    StringBuilder b = new StringBuilder("street " + random.nextInt(10) + ";");
    int anvils = 0;
    int items = random.nextInt(9);
    for (int i = 0; i < items; i++) {
      int what = random.nextInt(anvils == 0 ? 2 : 4);
      if (what == 0 && anvils < 4 || random.nextInt(40) == 0) {
        anvils++;
        b.append("anvil " + random.nextInt(6));
        for (int t = 0; t < 4; t++) b.append(" " + random.nextInt(21));
      } else if (what <= 1) {
        b.append("day");
      } else {
        b.append("work " + random.nextInt(anvils) + " " + random.nextInt(4) + " " + (1 + random.nextInt(5)));
      }
      b.append(random.nextInt(4) == 0 ? " ; " : ";");
    }
    int faults = Math.max(0, random.nextInt(5) - 2);
    for (int i = 0; i < faults && b.length() > 1; i++) spoil(b);
    return b.length() <= 155 ? b.toString() : b.substring(0, 155);
  }

  private void spoil(StringBuilder b) {
    int at = random.nextInt(b.length());
    char[] some = {' ', ';', '0', '9', '1', 'a', 'd', 's', '-', 'Z', '`', '{', '/', ':', (char) 0, (char) 127, (char) 9};
    switch (random.nextInt(4)) {
      case 0: b.deleteCharAt(at); break;
      case 1: b.insert(at, some[random.nextInt(some.length)]); break;
      case 2: b.setCharAt(at, some[random.nextInt(some.length)]); break;
      default: b.setLength(at + 1); break;
    }
  }
}
