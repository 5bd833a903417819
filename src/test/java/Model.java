import java.util.ArrayDeque;
import java.util.ArrayList;
import java.util.Arrays;
import java.util.Deque;
import java.util.List;
import java.util.Map;
import java.util.TreeMap;
import java.util.regex.Matcher;
import java.util.regex.Pattern;

/**
 * The document said a second time, with the Java library and without thrift, to set the class beside.
 * It shares no code with the class, and goes its own ways: copies instead of rows, lists, patterns.
 */
final class Model {
  abstract static class Kind {
    abstract int left(int m, int d);
    abstract int up(int m, int h);
    abstract int more(int n);
  }

  static class Plain extends Kind {
    int left(int m, int d) { return Math.max(0, m - 1); }
    int up(int m, int h) { return Math.max(0, m - h); }
    int more(int n) { return n; }
  }

  static class Cold extends Plain {
    int left(int m, int d) { return d % 2 == 0 ? super.left(m, d) : m; }
    int up(int m, int h) { return super.up(m, h) - super.up(m, h) / 2; }
  }

  static class Old extends Plain {
    int left(int m, int d) { return d % 3 == 0 ? super.left(m, d) : m; }
    int up(int m, int h) { return super.up(m, h) + (m >= 1 ? 1 : 0); }
  }

  static class Salt extends Plain {
    int left(int m, int d) { return super.left(m, d) / 2; }
    int more(int n) { return n - n / 2; }
  }

  static class Stone extends Old {
    int left(int m, int d) { return m; }
    int up(int m, int h) { return super.up(m, h) * 2; }
  }

  static class Cloth extends Cold {
    int up(int m, int h) { return m >= 10 ? 0 : super.up(m, h); }
    int more(int n) { return super.more(n) * 2; }
  }

  static final Kind[] KINDS = {new Plain(), new Cold(), new Old(), new Salt(), new Stone(), new Cloth()};

  static final class Anvil {
    int kind;
    int[] m;
    Anvil(int kind, int... m) { this.kind = kind; this.m = m.clone(); }
    Anvil copy() { return new Anvil(kind, m); }
    Kind k() { return KINDS[kind]; }
    int up(int t, int h) { return k().up(m[t], h); }
    int foreign(int t, int h) {
      int all = 0;
      for (int o = 0; o < 4; o++) all += o == t ? 0 : up(o, h);
      return all;
    }
    int work(int t, int n, int h) {
      int f = foreign(t, h);
      m[t] = Math.min(20, m[t] + k().more(n));
      return f;
    }
    void fade(int d) {
      for (int t = 0; t < 4; t++) m[t] = k().left(m[t], d);
    }
    boolean clean() { return Arrays.stream(m).allMatch(v -> v == 0); }
  }

  record Past(List<int[]> memories, int day, int hand) { }

  static final class State {
    List<Anvil> anvils = new ArrayList<>();
    int day = 0;
    int hand = 0;
    List<int[]> notes = new ArrayList<>();
    List<int[]> came = new ArrayList<>();
    Deque<Past> past = new ArrayDeque<>();

    State copy() {
      State s = new State();
      for (Anvil a : anvils) s.anvils.add(a.copy());
      s.day = day;
      s.hand = hand;
      s.notes.addAll(notes);
      s.came.addAll(came);
      s.past.addAll(past);
      return s;
    }

    void save() {
      List<int[]> all = new ArrayList<>();
      for (Anvil a : anvils) all.add(a.m.clone());
      past.addLast(new Past(all, day, hand));
      if (past.size() > 8) past.removeFirst();
    }

    void dayGoes() {
      for (Anvil a : anvils) a.fade(day);
      day = Math.min(999, day + 1);
    }
  }

  State s = new State();
  State[] images = new State[2];
  StringBuilder text = new StringBuilder();
  long above = 0;
  long below = 1;
  int[] status = new int[3];

  int bad() { status[0]++; return -2; }
  int bad10() { status[0]++; return -10; }
  int no() { status[1]++; return -3; }
  int full() { status[2]++; return -4; }
  static boolean in(int v, int lo, int hi) { return lo <= v && v <= hi; }
  boolean there(int a) { return in(a, 0, s.anvils.size() - 1); }

  int street(int hand) {
    if (!in(hand, 0, 9)) return bad();
    int were = s.anvils.size();
    s = new State();
    s.hand = hand;
    return were;
  }

  int anvil(int kind, int a, int b, int c, int d) {
    if (!in(kind, 0, 5)) return bad();
    for (int m : new int[] {a, b, c, d}) if (!in(m, 0, 20)) return bad();
    if (s.anvils.size() == 4) return full();
    s.anvils.add(new Anvil(kind, a, b, c, d));
    s.past.clear();
    return s.anvils.size() - 1;
  }

  int type(int c) {
    if (!in(c, 0, 127)) return bad();
    if (text.length() == 150) return full();
    text.append((char) c);
    return text.length();
  }

  int clear() {
    int had = text.length();
    text = new StringBuilder();
    return had;
  }

  static final Pattern TOKEN = Pattern.compile("([a-z]+)|([0-9]+)|(;)");

  int read() {
    List<String> words = new ArrayList<>();
    List<Integer> places = new ArrayList<>();
    String all = text.toString();
    Matcher m = TOKEN.matcher(all);
    int at = 0;
    while (true) {
      while (at < all.length() && all.charAt(at) == ' ') at++;
      places.add(at);
      if (at == all.length()) { words.add("END"); break; }
      if (!m.region(at, all.length()).lookingAt()) { words.add("?"); break; }
      words.add(m.group());
      at = m.end();
    }
    State made = new State();
    int i = 0;
    int items = 0;
    while (i == 0 || !words.get(i).equals("END")) {
      String w = words.get(i);
      int[][] told;
      if (i == 0) {
        if (!w.equals("street")) return -10 - places.get(0);
        told = new int[][] {{0, 9}};
      } else if (w.equals("anvil") && made.anvils.size() < 4) {
        told = new int[][] {{0, 5}, {0, 20}, {0, 20}, {0, 20}, {0, 20}};
      } else if (w.equals("work")) {
        told = new int[][] {{0, made.anvils.size() - 1}, {0, 3}, {1, 5}};
      } else if (w.equals("day")) {
        told = new int[0][];
      } else {
        return -10 - places.get(i);
      }
      i++;
      int[] v = new int[told.length];
      for (int j = 0; j < told.length; j++, i++) {
        String n = words.get(i);
        if (!n.matches("[0-9]{1,2}") || !in(Integer.parseInt(n), told[j][0], told[j][1])) return -10 - places.get(i);
        v[j] = Integer.parseInt(n);
      }
      if (!words.get(i).equals(";")) return -10 - places.get(i);
      i++;
      items++;
      switch (w) {
        case "street" -> made.hand = v[0];
        case "anvil" -> made.anvils.add(new Anvil(v[0], v[1], v[2], v[3], v[4]));
        case "work" -> made.anvils.get(v[0]).work(v[1], v[2], made.hand);
        default -> made.dayGoes();
      }
    }
    s = made;
    return items;
  }

  int work(int a, int t, int n) {
    if (!there(a) || !in(t, 0, 3) || !in(n, 1, 5)) return bad();
    s.save();
    return s.anvils.get(a).work(t, n, s.hand);
  }

  int day(int n) {
    if (!in(n, 1, 60)) return bad();
    s.save();
    for (int i = 0; i < n; i++) s.dayGoes();
    return s.day;
  }

  int salt(int a, int t) {
    if (!there(a) || !in(t, 0, 3)) return bad();
    s.save();
    int was = s.anvils.get(a).m[t];
    s.anvils.get(a).m[t] = 0;
    return was;
  }

  int hand(int h) {
    if (!in(h, 0, 9)) return bad();
    s.save();
    int was = s.hand;
    s.hand = h;
    return was;
  }

  int undo() {
    if (s.past.isEmpty()) return no();
    Past p = s.past.removeLast();
    for (int a = 0; a < s.anvils.size(); a++) s.anvils.get(a).m = p.memories().get(a).clone();
    s.day = p.day();
    s.hand = p.hand();
    return s.day;
  }

  int of(int a, int what) {
    if (!there(a) || !in(what, 0, 4)) return bad();
    return what == 0 ? s.anvils.get(a).kind : s.anvils.get(a).m[what - 1];
  }

  int up(int a, int t) {
    if (!there(a) || !in(t, 0, 3)) return bad();
    return s.anvils.get(a).up(t, s.hand);
  }

  int foreign(int a, int t) {
    if (!there(a) || !in(t, 0, 3)) return bad();
    return s.anvils.get(a).foreign(t, s.hand);
  }

  /** The anvil as it will be behind so many days. */
  Anvil later(int a, int days) {
    Anvil x = s.anvils.get(a).copy();
    for (int i = 0; i < days; i++) x.fade(s.day + i);
    return x;
  }

  int then(int a, int t, int m) {
    if (!there(a) || !in(t, 0, 3) || !in(m, 0, 90)) return bad();
    return later(a, m).m[t];
  }

  int clean(int a) {
    if (!there(a)) return bad();
    for (int n = 0; n <= 90; n++) if (later(a, n).clean()) return n;
    return -1;
  }

  int keep(int a) {
    if (!there(a)) return bad();
    for (int h = 0; h <= 9; h++) {
      Anvil x = s.anvils.get(a);
      if (x.up(0, h) + x.up(1, h) + x.up(2, h) + x.up(3, h) == 0) return h;
    }
    return -1;
  }

  int best(int t) {
    if (!in(t, 0, 3)) return bad();
    List<Integer> row = new ArrayList<>();
    for (int a = 0; a < s.anvils.size(); a++) row.add(a);
    row.sort((p, q) -> {
      Anvil x = s.anvils.get(p);
      Anvil y = s.anvils.get(q);
      int f = Integer.compare(x.foreign(t, s.hand), y.foreign(t, s.hand));
      return f != 0 ? f : Integer.compare(y.up(t, s.hand), x.up(t, s.hand));
    });
    return row.isEmpty() ? -1 : row.get(0);
  }

  int orders(int works, int n, int i) {
    String told = works == 0 ? "" : Integer.toString(works);
    if (!told.matches("[1-4]{0,4}") || !in(n, 1, 5) || i < -1) return bad10();
    int size = s.anvils.size();
    if (size == 0) return -1;
    int ways = 1;
    for (int j = 0; j < told.length(); j++) ways *= size;
    int least = Integer.MAX_VALUE;
    int[] first = null;
    for (int w = 0; w < ways; w++) {
      int[] way = new int[told.length()];
      for (int j = told.length() - 1, x = w; j >= 0; j--, x /= size) way[j] = x % size;
      State trial = s.copy();
      int all = 0;
      for (int j = 0; j < way.length; j++) all += trial.anvils.get(way[j]).work(told.charAt(j) - '1', n, s.hand);
      if (all < least) {
        least = all;
        first = way;
      }
    }
    return i == -1 ? least : i < first.length ? first[i] : -5;
  }

  int waits(int a, int t, int x, int w) {
    if (!there(a) || !in(t, 0, 3) || !in(x, 0, 80) || !in(w, 0, 50)) return bad();
    for (int n = 0; n <= 30; n++) {
      Anvil l = later(a, n);
      if (l.foreign(t, s.hand) <= x && l.up(t, s.hand) >= w) return n;
    }
    return -1;
  }

  int note(int a, int m, int d, int k) {
    if (!there(a) || !in(m, 0, 20) || !in(d, 0, 99) || !in(k, 0, 20)) return bad();
    if (s.notes.size() == 6) return full();
    s.notes.add(new int[] {a, m, d, k});
    return s.notes.size();
  }

  int came(int a, int t, int h, int x) {
    if (!there(a) || !in(t, 0, 3) || !in(h, 0, 9) || !in(x, 0, 50)) return bad();
    if (s.came.size() == 6) return full();
    s.came.add(new int[] {a, t, h, x});
    return s.came.size();
  }

  int forget(int what) {
    if (!in(what, 0, 1)) return bad();
    List<int[]> l = what == 0 ? s.notes : s.came;
    int were = l.size();
    l.clear();
    return were;
  }

  int fits(int a) {
    int bits = 0;
    for (int k = 0; k < 6; k++) {
      Kind kind = KINDS[k];
      if (s.notes.stream().filter(r -> r[0] == a).allMatch(r -> kind.left(r[1], r[2]) == r[3])) bits += 1 << k;
    }
    return bits;
  }

  int is(int a) {
    return there(a) ? fits(a) : bad();
  }

  int look(int a) {
    if (!there(a)) return bad();
    int bits = fits(a);
    if (bits == 0) return -1;
    TreeMap<Integer, TreeMap<Integer, Integer>> byMost = new TreeMap<>();
    for (int m = 1; m <= 20; m++) {
      for (int d = 0; d <= 2; d++) {
        Map<Integer, Integer> groups = new TreeMap<>();
        for (int k = 0; k < 6; k++) if ((bits & 1 << k) != 0) groups.merge(KINDS[k].left(m, d), 1, Integer::sum);
        int most = groups.values().stream().mapToInt(v -> v).max().getAsInt();
        byMost.computeIfAbsent(most, z -> new TreeMap<>()).put(10 * m + d, 0);
      }
    }
    return byMost.firstEntry().getValue().firstKey();
  }

  int memory(int a, int t) {
    if (!there(a) || !in(t, 0, 3)) return bad();
    int bits = 0;
    for (int m = 0; m <= 20; m++) {
      int v = m;
      if (s.came.stream().filter(r -> r[0] == a && r[1] == t).allMatch(r -> s.anvils.get(a).k().up(v, r[2]) == r[3])) bits += 1 << m;
    }
    return bits;
  }

  int whose(int a, int b, int c, int d) {
    int[] all = {a, b, c, d};
    for (int v : all) if (!in(v, 0, 50)) return bad();
    int bits = 0;
    for (int i = 0; i < s.anvils.size(); i++) {
      int[] ups = new int[4];
      for (int t = 0; t < 4; t++) ups[t] = s.anvils.get(i).up(t, s.hand);
      if (Arrays.equals(ups, all)) bits += 1 << i;
    }
    return bits;
  }

  int gets(int own, int other, int t) {
    int g = 20 - s.anvils.get(own).foreign(t, s.hand);
    return own != other ? g : g < 0 ? -(-g / 2) : g / 2;
  }

  int two(int p, int q, int k) {
    if (!in(p, 0, 3) || !in(q, 0, 3) || k < -1) return bad10();
    List<Integer> rest = new ArrayList<>();
    int n = s.anvils.size();
    for (int i = 0; i < n; i++) {
      for (int j = 0; j < n; j++) {
        boolean rests = true;
        for (int o = 0; o < n; o++) rests &= gets(o, j, p) <= gets(i, j, p) && gets(o, i, q) <= gets(j, i, q);
        if (rests) rest.add(4 * i + j);
      }
    }
    return k == -1 ? rest.size() : k < rest.size() ? rest.get(k) : -5;
  }

  int frost(int a, int c) {
    if (!there(a) || !in(c, 0, 10)) return bad();
    int sum = Arrays.stream(s.anvils.get(a).m).sum() * (10 - c);
    above = sum;
    below = 10;
    for (long f = 10; f > 1; f--) {
      while (above % f == 0 && below % f == 0) {
        above /= f;
        below /= f;
      }
    }
    return 1;
  }

  int streets(int seed, int n) {
    if (!in(seed, 0, 999999) || !in(n, 0, 60)) return bad();
    State trial = s.copy();
    long x = seed;
    int all = 0;
    for (int i = 0; i < n; i++) {
      x = x * 1103515245L + 12345L & 0x7fffffffL;
      int a = (int) (x >> 16 & 3);
      int t = (int) (x >> 20 & 3);
      int blows = (int) ((x >> 24) % 5) + 1;
      if (a < trial.anvils.size()) all += trial.anvils.get(a).work(t, blows, s.hand);
      for (Anvil v : trial.anvils) v.fade(s.day + i);
    }
    return all;
  }

  long part(int what) {
    return what == 0 ? above : what == 1 ? below : bad();
  }

  int image(int i) {
    if (!in(i, 0, 1)) return bad();
    images[i] = s.copy();
    return 1;
  }

  int from(int i) {
    if (!in(i, 0, 1)) return bad();
    if (images[i] == null) return no();
    s = images[i].copy();
    return 1;
  }

  int status(int what) {
    if (in(what, 0, 2)) return status[what];
    bad();
    return -1;
  }

  int[] counts() {
    return new int[] {s.anvils.size(), s.day, s.hand, s.notes.size(), s.came.size(), s.past.size(), text.length()};
  }

  int count(int what) {
    return in(what, 0, 6) ? counts()[what] : bad();
  }

  long digest() {
    List<Long> v = new ArrayList<>();
    for (int c : counts()) v.add((long) c);
    for (Anvil a : s.anvils) {
      v.add((long) a.kind);
      for (int m : a.m) v.add((long) m);
    }
    for (int[] r : s.notes) for (int c : r) v.add((long) c);
    for (int[] r : s.came) for (int c : r) v.add((long) c);
    v.add(above);
    v.add(below);
    long h = 1321;
    for (long x : v) h = 31 * h + x;
    return h;
  }
}
