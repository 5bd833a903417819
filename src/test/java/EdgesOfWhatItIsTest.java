import java.math.BigInteger;
import java.util.function.Supplier;

/** The boundaries of what it is: promises 21 to 30, NOTES and CAME 0 to 5, TWO, FROST, STREETS. */
public final class EdgesOfWhatItIsTest {
  private static final Check CHECK = new Check();
  private static final int PLAIN = 0, COLD = 1, OLD = 2, SALT = 3, STONE = 4, CLOTH = 5;
  private static final int MOST = Integer.MAX_VALUE;
  // Bits 0 to 20.
  private static final int ALL = 2097151;

  public static void main(String[] args) {
    noNotesAndSix();
    noCameAndSix();
    forgetsOneOfBoth();
    isAllAndNone();
    isByTheEdgesOfANote();
    eachOfSixNotesCounts();
    lookByTheKindsLeft();
    lookOfNone();
    memoryOfNoneAndOfAll();
    memoryByTheKind();
    eachOfSixCameCounts();
    fromNoneAndFromAll();
    fromByEachOfFour();
    twoWithoutAnvils();
    twoOnOneAndOnFour();
    twoByHalfCut();
    twoByHalfTowardNothing();
    twoNotSoMany();
    frostByNoneAndByAll();
    frostInLowestTerms();
    streetsOfNone();
    streetsOfSixty();
    streetsAtTheCuts();
    streetsWhereNoneIsThere();
    streetsBeyondTheLastDay();
    CHECK.end();
  }

  private static void due(String call, long got, long want) {
    CHECK.due(call, got, want);
  }

  private static AnvilStreet made(int day, int hand, int[]... anvils) {
    AnvilStreet x = new AnvilStreet();
    x.street(hand);
    Twins.dayIs(x, day);
    for (int[] a : anvils) x.anvil(a[0], a[1], a[2], a[3], a[4]);
    return x;
  }

  private static int[] of(int kind, int a, int b, int c, int d) {
    return new int[] {kind, a, b, c, d};
  }

  /** "NOTES 0 .. 5, as they come", promise 21: "FULL: 6". */
  private static void noNotesAndSix() {
    AnvilStreet x = made(0, 0, of(PLAIN, 0, 0, 0, 0));
    due("no notes", x.count(3), 0);
    for (int i = 1; i <= 6; i++) {
      due("note " + i, x.note(0, 0, 0, 0), i);
      due("notes", x.count(3), i);
    }
    due("a 7th", x.note(0, 0, 0, 0), -4);
    due("forget six", x.forget(0), 6);
    due("room again", x.note(0, 20, 99, 20), 1);
    Twins full = new Twins(CHECK, Twins::full);
    full.refused("a 7th note", y -> y.note(3, 20, 99, 20), -4, Twins.FULL);
    full.refused("a 7th note, BAD", y -> y.note(4, 20, 99, 20), -2, Twins.BAD);
    AnvilStreet z = Twins.some();
    int may = z.count(5);
    z.note(0, 0, 0, 0);
    due("a note is not undone", z.count(5), may);
    due("nor told as came", z.count(4), 1);
  }

  /** "CAME 0 .. 5, as they are told", promise 22: "FULL: 6". */
  private static void noCameAndSix() {
    AnvilStreet x = made(0, 0, of(PLAIN, 0, 0, 0, 0));
    due("none came", x.count(4), 0);
    for (int i = 1; i <= 6; i++) {
      due("came " + i, x.came(0, 0, 0, 0), i);
      due("came", x.count(4), i);
    }
    due("a 7th", x.came(0, 0, 0, 0), -4);
    due("forget six", x.forget(1), 6);
    due("room again", x.came(0, 3, 9, 50), 1);
    Twins full = new Twins(CHECK, Twins::full);
    full.refused("a 7th came", y -> y.came(3, 3, 9, 50), -4, Twins.FULL);
    full.refused("a 7th came, BAD", y -> y.came(3, 3, 9, 51), -2, Twins.BAD);
    AnvilStreet z = Twins.some();
    int may = z.count(5);
    z.came(0, 0, 0, 0);
    due("came is not undone", z.count(5), may);
    due("nor told as a note", z.count(3), 2);
  }

  /** Promise 23: "No NOTES (0), CAME (1): how many there were." */
  private static void forgetsOneOfBoth() {
    for (int what = 0; what <= 1; what++) {
      AnvilStreet x = Twins.full();
      due("forget six", x.forget(what), 6);
      due("none are left", x.count(3 + what), 0);
      due("the others stay", x.count(4 - what), 6);
      due("what may be undone stays", x.count(5), 8);
      due("forget none", x.forget(what), 0);
      due("nothing is refused", x.status(0) + x.status(1) + x.status(2), 0);
      due("forget of a new one", new AnvilStreet().forget(what), 0);
    }
  }

  /** Promise 24: no NOTES: all KINDS, whatever it is; a NOTE that none can leave: none. */
  private static void isAllAndNone() {
    for (int kind = 0; kind < 6; kind++) due("is, no notes", made(0, 0, of(kind, 1, 2, 3, 4)).is(0), 63);
    AnvilStreet x = made(0, 0, of(STONE, 0, 0, 0, 0), of(STONE, 0, 0, 0, 0));
    x.note(0, 9, 0, 10);
    due("none", x.is(0), 0);
    due("of another", x.is(1), 63);
    Twins some = new Twins(CHECK, Twins::some);
    // 5 behind DAY 1 was 5: COLD, OLD, STONE, CLOTH; 12 behind DAY 3 was 12: COLD, STONE, CLOTH.
    some.asked("is", y -> y.is(0), 2 + 4 + 16 + 32);
    some.asked("is", y -> y.is(1), 2 + 16 + 32);
    some.asked("look", y -> y.look(0), 12);
    some.asked("look", y -> y.look(1), 10);
  }

  private static void isOf(int m, int d, int k, int bits) {
    AnvilStreet x = made(0, 0, of(PLAIN, 0, 0, 0, 0));
    x.note(0, m, d, k);
    due("is, " + m + " behind " + d + " was " + k, x.is(0), bits);
  }

  /** m and k 0 and 20, d 0 and 99. */
  private static void isByTheEdgesOfANote() {
    isOf(0, 0, 0, 63);
    isOf(0, 99, 0, 63);
    isOf(0, 0, 1, 0);
    isOf(0, 99, 20, 0);
    isOf(20, 0, 20, 16);
    isOf(20, 0, 19, 1 + 2 + 4 + 32);
    isOf(20, 0, 9, 8);
    isOf(20, 0, 0, 0);
    isOf(20, 99, 20, 2 + 16 + 32);
    isOf(20, 99, 19, 1 + 4);
    isOf(20, 99, 9, 8);
    isOf(20, 98, 20, 4 + 16);
    isOf(20, 98, 19, 1 + 2 + 32);
    isOf(1, 0, 0, 1 + 2 + 4 + 8 + 32);
    isOf(1, 0, 1, 16);
    isOf(1, 1, 0, 1 + 8);
    isOf(1, 1, 1, 2 + 4 + 16 + 32);
  }

  private static void eachOfSixNotesCounts() {
    for (int other = 0; other < 6; other++) {
      AnvilStreet x = made(0, 0, of(PLAIN, 0, 0, 0, 0), of(PLAIN, 0, 0, 0, 0));
      for (int i = 0; i < 6; i++) {
        // 0 of all is 0; but one of them tells SALT alone.
        if (i == other) x.note(1, 20, 99, 9);
        else x.note(1, 0, i, 0);
      }
      due("is, the " + other + "th tells it", x.is(1), 8);
      due("is of the other", x.is(0), 63);
      due("look, the " + other + "th tells it", x.look(1), 10);
    }
  }

  private static void lookOf(String kinds, int bits, int look, int[]... notes) {
    AnvilStreet x = made(0, 0, of(PLAIN, 0, 0, 0, 0));
    for (int[] n : notes) x.note(0, n[0], n[1], n[2]);
    due("is, " + kinds, x.is(0), bits);
    due("look, " + kinds, x.look(0), look);
  }

  /** Promise 25, for all KINDS that NOTES can leave: "m 1 .. 20, d 0 .. 2", "of like ones the least". */
  private static void lookByTheKindsLeft() {
    // 2 behind DAY 2: three are 1, two are 2, one is 0.
    lookOf("all", 63, 22);
    lookOf("all but stone", 47, 11, new int[] {1, 0, 0});
    lookOf("all but salt and stone", 39, 11, new int[] {9, 0, 8});
    lookOf("plain, cold, salt, cloth", 43, 11, new int[] {1, 2, 0});
    lookOf("cold, old, stone, cloth", 54, 12, new int[] {9, 1, 9});
    lookOf("plain, cold, cloth", 35, 11, new int[] {9, 2, 8});
    lookOf("cold, old, cloth", 38, 12, new int[] {9, 0, 8}, new int[] {9, 1, 9});
    lookOf("cold, stone, cloth", 50, 10, new int[] {9, 3, 9});
    lookOf("plain, old, salt", 13, 21, new int[] {1, 3, 0});
    lookOf("plain, old", 5, 11, new int[] {9, 3, 8});
    lookOf("plain, salt", 9, 20, new int[] {1, 1, 0});
    // COLD and CLOTH are never told apart: the least there is.
    lookOf("cold, cloth", 34, 10, new int[] {9, 3, 9}, new int[] {9, 0, 8});
    lookOf("old, stone", 20, 10, new int[] {9, 2, 9});
    lookOf("plain", 1, 10, new int[] {9, 1, 8});
    lookOf("old", 4, 10, new int[] {9, 2, 9}, new int[] {9, 3, 8});
    lookOf("salt", 8, 10, new int[] {9, 0, 4});
    lookOf("stone", 16, 10, new int[] {9, 0, 9});
  }

  /** "none: no KIND". */
  private static void lookOfNone() {
    lookOf("none", 0, -1, new int[] {9, 0, 5});
    lookOf("none by two", 0, -1, new int[] {9, 0, 9}, new int[] {9, 0, 8});
    new Twins(CHECK, () -> {
      AnvilStreet x = Twins.some();
      x.note(1, 0, 0, 1);
      return x;
    }).asked("look, none", x -> x.look(1), -1);
  }

  /** Promise 26: "(bits 0 .. 20)", no CAME: all of them, whatever it remembers. */
  private static void memoryOfNoneAndOfAll() {
    AnvilStreet x = made(3, 4, of(PLAIN, 1, 2, 3, 20), of(CLOTH, 0, 0, 0, 0));
    for (int a = 0; a < 2; a++) {
      for (int t = 0; t < 4; t++) due("memory, none came", x.memory(a, t), ALL);
    }
    x.came(0, 3, 0, 50);
    due("memory, 50 came", x.memory(0, 3), 0);
    for (int t = 0; t < 3; t++) due("memory, of another temper", x.memory(0, t), ALL);
    due("memory, of another anvil", x.memory(1, 3), ALL);
    Twins some = new Twins(CHECK, Twins::some);
    some.asked("memory", y -> y.memory(0, 0), ALL);
    // 4 of TEMPER 2 by HAND 3 from a CLOTH: half of 7 or 8 is only told by 10 or 11, which it hides.
    some.asked("memory", y -> y.memory(1, 2), 0);
  }

  private static void memoryOf(int kind, int h, int x, int bits) {
    AnvilStreet s = made(0, 9 - h, of(kind, 20, 20, 20, 20));
    s.came(0, 1, h, x);
    due("memory, kind " + kind + ", " + x + " by " + h, s.memory(0, 1), bits);
  }

  private static int bits(int from, int to) {
    int all = 0;
    for (int i = from; i <= to; i++) all |= 1 << i;
    return all;
  }

  /** "its KIND as it is", h 0 and 9, x 0 and the most that comes. */
  private static void memoryByTheKind() {
    memoryOf(PLAIN, 0, 0, 1);
    memoryOf(PLAIN, 0, 20, bits(20, 20));
    memoryOf(PLAIN, 0, 21, 0);
    memoryOf(PLAIN, 9, 0, bits(0, 9));
    memoryOf(PLAIN, 9, 1, bits(10, 10));
    memoryOf(PLAIN, 9, 11, bits(20, 20));
    memoryOf(PLAIN, 9, 12, 0);
    memoryOf(PLAIN, 9, 50, 0);
    memoryOf(COLD, 0, 0, 1);
    memoryOf(COLD, 0, 1, bits(1, 2));
    memoryOf(COLD, 0, 10, bits(19, 20));
    memoryOf(COLD, 0, 11, 0);
    memoryOf(COLD, 9, 6, bits(20, 20));
    memoryOf(OLD, 0, 0, 1);
    memoryOf(OLD, 0, 1, 0);
    memoryOf(OLD, 0, 2, bits(1, 1));
    memoryOf(OLD, 0, 21, bits(20, 20));
    memoryOf(OLD, 9, 0, 1);
    memoryOf(OLD, 9, 1, bits(1, 9));
    memoryOf(SALT, 9, 0, bits(0, 9));
    memoryOf(SALT, 0, 20, bits(20, 20));
    memoryOf(STONE, 0, 42, bits(20, 20));
    memoryOf(STONE, 0, 43, 0);
    memoryOf(STONE, 9, 2, bits(1, 9));
    memoryOf(STONE, 9, 3, 0);
    memoryOf(CLOTH, 0, 0, 1 | bits(10, 20));
    memoryOf(CLOTH, 0, 5, bits(9, 9));
    memoryOf(CLOTH, 0, 6, 0);
    memoryOf(CLOTH, 9, 0, ALL);
  }

  private static void eachOfSixCameCounts() {
    for (int other = 0; other < 6; other++) {
      AnvilStreet x = made(0, 0, of(COLD, 0, 0, 0, 0), of(PLAIN, 0, 0, 0, 0));
      for (int i = 0; i < 6; i++) {
        // nothing by HAND 4 to 9 leaves 0 to 4 at most; but one of them tells 3.
        if (i == other) x.came(1, 3, 2, 1);
        else x.came(1, 3, 4 + i, 0);
      }
      due("memory, the " + other + "th tells it", x.memory(1, 3), 1 << 3);
      due("memory of another temper", x.memory(1, 2), ALL);
      due("memory of another anvil", x.memory(0, 3), ALL);
    }
  }

  /** Promise 27: no ANVILS, none, all four. */
  private static void fromNoneAndFromAll() {
    Twins none = new Twins(CHECK, Twins::none);
    none.asked("whose, no anvils", x -> x.whose(0, 0, 0, 0), 0);
    none.asked("whose, no anvils", x -> x.whose(50, 50, 50, 50), 0);
    AnvilStreet x = made(0, 0, of(PLAIN, 1, 2, 3, 4), of(SALT, 1, 2, 3, 4), of(COLD, 2, 4, 6, 8), of(COLD, 1, 3, 5, 7));
    due("whose, all", x.whose(1, 2, 3, 4), 15);
    due("whose, none", x.whose(2, 4, 6, 8), 0);
    due("whose, 50", x.whose(50, 50, 50, 50), 0);
    x.hand(9);
    due("whose, of nothing", x.whose(0, 0, 0, 0), 15);
    AnvilStreet y = made(0, 0, of(STONE, 20, 0, 0, 0), of(PLAIN, 0, 0, 0, 0));
    due("whose, the most", y.whose(42, 0, 0, 0), 1);
    due("whose, nothing", y.whose(0, 0, 0, 0), 2);
    new Twins(CHECK, Twins::some).asked("whose", z -> z.whose(3, 6, 5, 6), 1);
  }

  private static void fromByEachOfFour() {
    AnvilStreet x = made(0, 1, of(PLAIN, 3, 4, 5, 6));
    due("whose", x.whose(2, 3, 4, 5), 1);
    for (int t = 0; t < 4; t++) {
      for (int by = -1; by <= 1; by += 2) {
        int[] n = {2, 3, 4, 5};
        n[t] += by;
        due("whose, but for temper " + t, x.whose(n[0], n[1], n[2], n[3]), 0);
      }
    }
  }

  /** Promise 28: no ANVILS: no pairs. */
  private static void twoWithoutAnvils() {
    Twins none = new Twins(CHECK, Twins::none);
    none.asked("two, how many", x -> x.two(0, 3, -1), 0);
    none.asked("two, the 0th", x -> x.two(0, 3, 0), -5);
    none.asked("two, far", x -> x.two(0, 3, MOST), -5);
    none.refused("two, k -2", x -> x.two(0, 3, -2), -10, Twins.BAD);
  }

  private static void pairs(String name, Supplier<AnvilStreet> made, int s, int t, int... pairs) {
    Twins twins = new Twins(CHECK, made);
    String call = name + ", two " + s + " " + t;
    twins.asked(call + ", how many", x -> x.two(s, t, -1), pairs.length);
    for (int i = 0; i < pairs.length; i++) {
      int k = i;
      twins.asked(call + ", the " + k, x -> x.two(s, t, k), pairs[k]);
    }
    twins.asked(call + ", not so many", x -> x.two(s, t, pairs.length), -5);
  }

  private static void twoOnOneAndOnFour() {
    for (int t = 0; t < 4; t++) pairs("one anvil", () -> made(0, 0, of(STONE, 20, 20, 20, 20)), 0, t, 0);
    int[] nothing = of(PLAIN, 0, 0, 0, 0);
    Supplier<AnvilStreet> four = () -> made(0, 0, nothing, nothing, nothing, nothing);
    // 20 apart, 10 together: each pair of two anvils.
    pairs("four alike", four, 0, 0, 1, 2, 3, 4, 6, 7, 8, 9, 11, 12, 13, 14);
    pairs("four alike", four, 3, 1, 1, 2, 3, 4, 6, 7, 8, 9, 11, 12, 13, 14);
    // 20 for the first smith on the last anvil alone, -10 elsewhere; the other way for the second.
    int[] much = of(PLAIN, 0, 15, 0, 15);
    Supplier<AnvilStreet> last = () -> made(0, 0, much, much, much, nothing);
    // both together get 10 there, and -10 elsewhere.
    pairs("the last is best", last, 0, 0, 15);
    pairs("by hand 9", () -> made(0, 9, of(PLAIN, 0, 9, 0, 0), of(PLAIN, 0, 9, 0, 0)), 0, 0, 1, 2 * 2);
  }

  /** "half (cut, toward 0) of that, if both choose the same": of 19 it is 9. */
  private static void twoByHalfCut() {
    pairs("9 are less than 10", () -> made(0, 0, of(PLAIN, 0, 0, 0, 1), of(PLAIN, 0, 0, 0, 10)), 0, 0, 1, 4);
    pairs("9 are not less than 9", () -> made(0, 0, of(PLAIN, 0, 0, 0, 1), of(PLAIN, 0, 0, 0, 11)), 0, 0, 0, 1, 4);
    pairs("9 are more than 8", () -> made(0, 0, of(PLAIN, 0, 0, 0, 1), of(PLAIN, 0, 0, 0, 12)), 0, 0, 0);
    // for TEMPER 3 there is no FOREIGN, for TEMPER 0 there are 1 and 10: unlike WORKS.
    pairs("unlike", () -> made(0, 0, of(PLAIN, 0, 0, 0, 1), of(PLAIN, 0, 0, 0, 10)), 3, 0, 1, 4);
    pairs("unlike", () -> made(0, 0, of(PLAIN, 0, 0, 0, 1), of(PLAIN, 0, 0, 0, 11)), 3, 0, 1, 4);
    pairs("unlike", () -> made(0, 0, of(PLAIN, 0, 0, 0, 1), of(PLAIN, 0, 0, 0, 12)), 3, 0, 4);
    pairs("unlike", () -> made(0, 0, of(PLAIN, 0, 0, 0, 1), of(PLAIN, 0, 0, 0, 12)), 0, 3, 1);
  }

  /** Of -3 the half is -1, of -1 it is 0. */
  private static void twoByHalfTowardNothing() {
    pairs("-3 and -1", () -> made(0, 0, of(PLAIN, 0, 20, 0, 3), of(PLAIN, 0, 20, 0, 1)), 0, 0, 0, 5);
    pairs("-1 and 1", () -> made(0, 0, of(PLAIN, 0, 20, 0, 1), of(PLAIN, 0, 19, 0, 0)), 0, 0, 5);
    pairs("-1 and 0", () -> made(0, 0, of(PLAIN, 0, 20, 0, 1), of(PLAIN, 0, 20, 0, 0)), 0, 0, 0, 5);
    pairs("the least there is, -106 and -53", () -> made(0, 0, of(STONE, 20, 20, 20, 20), of(STONE, 20, 20, 20, 20)),
        0, 0, 0, 5);
  }

  /** "-5: not so many." */
  private static void twoNotSoMany() {
    Twins some = new Twins(CHECK, Twins::some);
    for (int k : new int[] {16, 1000, MOST}) some.asked("two, the " + k, x -> x.two(0, 0, k), -5);
    some.refused("two, k -2", x -> x.two(0, 0, -2), -10, Twins.BAD);
    some.refused("two, s 4", x -> x.two(4, 0, 99), -10, Twins.BAD);
    some.refused("two, t 4", x -> x.two(0, 4, 99), -10, Twins.BAD);
  }

  private static void fraction(String name, AnvilStreet x, long above, long below) {
    due(name + ", above", x.part(0), above);
    due(name + ", below", x.part(1), below);
  }

  /** Promise 29: c 0 and 10; "THE FRACTION is 0 by 1 at first". */
  private static void frostByNoneAndByAll() {
    AnvilStreet x = made(0, 0, of(PLAIN, 20, 20, 20, 20), of(PLAIN, 0, 0, 0, 0));
    fraction("at first", x, 0, 1);
    for (int c = 0; c <= 10; c++) {
      due("frost", x.frost(0, c), 1);
      fraction("80 by " + c, x, 8L * (10 - c), 1);
      due("frost of nothing", x.frost(1, c), 1);
      fraction("nothing by " + c, x, 0, 1);
    }
    due("nothing is let out of it now", x.of(0, 1), 20);
    due("nothing to undo", x.count(5), 0);
    for (int t = 0; t < 4; t++) {
      int[] a = of(STONE, 0, 0, 0, 0);
      a[t + 1] = 3;
      AnvilStreet y = made(0, 9, a);
      y.frost(0, 5);
      fraction("of temper " + t + " alone", y, 3, 2);
    }
    x.frost(0, 3);
    x.frost(2, 3);
    x.frost(0, 11);
    fraction("refused: it stays", x, 56, 1);
    x.street(0);
    fraction("behind street", x, 56, 1);
  }

  /** "lowest terms, below above 0". */
  private static void frostInLowestTerms() {
    int[][] of7 = {{7, 1}, {63, 10}, {28, 5}, {49, 10}, {21, 5}, {7, 2}, {14, 5}, {21, 10}, {7, 5}, {7, 10}, {0, 1}};
    int[][] of1 = {{1, 1}, {9, 10}, {4, 5}, {7, 10}, {3, 5}, {1, 2}, {2, 5}, {3, 10}, {1, 5}, {1, 10}, {0, 1}};
    AnvilStreet x = made(0, 0, of(PLAIN, 1, 2, 0, 4), of(COLD, 0, 0, 1, 0));
    for (int c = 0; c <= 10; c++) {
      x.frost(0, c);
      fraction("7 by " + c, x, of7[c][0], of7[c][1]);
      x.frost(1, c);
      fraction("1 by " + c, x, of1[c][0], of1[c][1]);
    }
  }

  /** Promise 30: n 0; no ANVILS; a SEED 0 and 999999. */
  private static void streetsOfNone() {
    Twins some = new Twins(CHECK, Twins::some);
    for (int seed : new int[] {0, 999999}) {
      some.asked("streets " + seed + " 0", x -> x.streets(seed, 0), 0);
      new Twins(CHECK, Twins::none).asked("streets " + seed + " 60", x -> x.streets(seed, 60), 0);
    }
  }

  /** The WORKS of STREETS done by calls, one by one. */
  private static long byCalls(AnvilStreet x, int seed, int n) {
    BigInteger all = BigInteger.valueOf(seed);
    long foreign = 0;
    for (int i = 0; i < n; i++) {
      all = all.multiply(BigInteger.valueOf(1103515245)).add(BigInteger.valueOf(12345)).mod(BigInteger.valueOf(2147483648L));
      int anvil = left(all, 65536, 4);
      if (anvil < x.count(0)) foreign += x.work(anvil, left(all, 1048576, 4), left(all, 16777216, 5) + 1);
      x.day(1);
    }
    return foreign;
  }

  private static int left(BigInteger x, int by, int over) {
    return x.divide(BigInteger.valueOf(by)).mod(BigInteger.valueOf(over)).intValueExact();
  }

  private static AnvilStreet fourOf(int day, int... kinds) {
    AnvilStreet x = new AnvilStreet();
    x.street(1);
    Twins.dayIs(x, day);
    for (int kind : kinds) x.anvil(kind, 3, 20, 0, 9);
    return x;
  }

  private static void streetsOfSixty() {
    for (int seed : new int[] {0, 1, 2, 12345, 500000, 999998, 999999}) {
      for (int n : new int[] {1, 2, 7, 59, 60}) {
        AnvilStreet x = fourOf(5, COLD, OLD, STONE, CLOTH);
        due("streets " + seed + " " + n, x.streets(seed, n), byCalls(fourOf(5, COLD, OLD, STONE, CLOTH), seed, n));
        due("streets " + seed + " " + n, x.streets(seed, n), byCalls(x, seed, n));
      }
    }
    new Twins(CHECK, Twins::some).asked("streets 999999 60", x -> x.streets(999999, 60), byCalls(Twins.some(), 999999, 60));
    new Twins(CHECK, Twins::full).refused("streets 999999 61", x -> x.streets(999999, 61), -2, Twins.BAD);
  }

  /** SEEDS by which some X is 0 or all but 1 less by 16777216 or 1048576: just cut, or just not. */
  private static void streetsAtTheCuts() {
    int[] seeds = {740226, 617975, 779828, 996615, 248944, 771696, 137925, 501379, 899870, 104754, 328537};
    for (int seed : seeds) {
      for (int kind = 0; kind < 6; kind++) {
        AnvilStreet x = fourOf(0, kind, kind, kind, kind);
        due("streets " + seed + ", kind " + kind, x.streets(seed, 60), byCalls(x, seed, 60));
      }
    }
  }

  /** "(not there: none)", "then a DAY goes by" all the same. */
  private static void streetsWhereNoneIsThere() {
    for (int anvils = 1; anvils <= 3; anvils++) {
      int[] kinds = new int[anvils];
      for (int seed = 0; seed < 8; seed++) {
        due(anvils + " anvils", fourOf(0, kinds).streets(seed, 60), byCalls(fourOf(0, kinds), seed, 60));
      }
    }
  }

  /** DAYS 999 to 1058 are as DAYS 3 to 62: even ones, and those that leave 0 by 3. */
  private static void streetsBeyondTheLastDay() {
    for (int seed = 0; seed < 8; seed++) {
      long early = byCalls(fourOf(3, COLD, OLD, PLAIN, CLOTH), seed, 60);
      due("streets, late", fourOf(999, COLD, OLD, PLAIN, CLOTH).streets(seed, 60), early);
      due("streets, early", fourOf(3, COLD, OLD, PLAIN, CLOTH).streets(seed, 60), early);
    }
    // A COLD one fades behind 1000, which would not be, if 999 stayed: X tells ANVIL 0 three times first.
    AnvilStreet x = made(999, 0, of(COLD, 0, 0, 0, 8));
    due("streets 0 3", x.streets(0, 3), 4 + 5 + 6);
    due("the day stays", x.count(1), 999);
  }
}
