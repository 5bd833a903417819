import java.util.function.Supplier;

/** The boundaries of a street and of days: promises 1 to 3 and 7 to 12, DAYS to 999, UNDO. */
public final class EdgesOfDaysTest {
  private static final Check CHECK = new Check();

  public static void main(String[] args) {
    aNewObject();
    theLastCall();
    streetIsAsAtFirst();
    streetLeavesFour();
    noAnvilsAndFour();
    memoriesOfAnAnvil();
    theLastDay();
    sixtyDays();
    manyDaysAreOneToUndo();
    saltOfNothing();
    handAsItWas();
    ofEach();
    nothingToUndo();
    eightToUndo();
    behindAnAnvil();
    refusedIsNotUndone();
    whatUndoBringsBack();
    notAheadOfUndo();
    CHECK.end();
  }

  private static void due(String call, long got, long want) {
    CHECK.due(call, got, want);
  }

  private static AnvilStreet withAnvil(int kind, int m) {
    AnvilStreet x = new AnvilStreet();
    x.anvil(kind, m, m, m, m);
    return x;
  }

  /** Promise 1: "As told; no ANVILS." DAY 0, THE HAND 0, THE FRACTION 0 by 1. */
  private static void aNewObject() {
    AnvilStreet x = new AnvilStreet();
    for (int what = 0; what <= 6; what++) due("new: count " + what, x.count(what), 0);
    due("new: above", x.part(0), 0);
    due("new: below", x.part(1), 1);
    for (int what = 0; what <= 2; what++) due("new: status " + what, x.status(what), 0);
    AnvilStreet y = new AnvilStreet();
    y.anvil(0, 1, 1, 1, 1);
    due("another object is apart", x.count(0), 0);
  }

  /** "An object is used for at most 512 calls": the 512th is as told. */
  private static void theLastCall() {
    AnvilStreet x = new AnvilStreet();
    for (int i = 0; i < 511; i++) due("undo " + i, x.undo(), -3);
    due("the 512th", x.status(1), 511);
    AnvilStreet y = new AnvilStreet();
    y.anvil(4, 0, 0, 0, 0);
    for (int i = 0; i < 510; i++) y.day(60);
    due("the 512th", y.work(0, 1, 5), 0);
  }

  /** Promise 2: "THE HAND, all else as at first (but for IMAGES, THE TEXT, THE FRACTION, STATUS)". */
  private static void streetIsAsAtFirst() {
    for (int hand = 0; hand <= 9; hand += 9) {
      AnvilStreet x = Twins.some();
      AnvilStreet other = Twins.some();
      due("street", x.street(hand), 2);
      int[] counts = {0, 0, hand, 0, 0, 0, 29};
      for (int what = 0; what <= 6; what++) due("street: count " + what, x.count(what), counts[what]);
      due("above", x.part(0), other.part(0));
      due("below", x.part(1), other.part(1));
      for (int what = 0; what <= 2; what++) due("status", x.status(what), other.status(what));
      due("undo", x.undo(), -3);
      due("the text stays", x.read(), other.read());
      for (int i = 0; i < 2; i++) {
        due("from", x.from(i), other.from(i));
        due("the image stays", x.digest(), other.digest());
      }
    }
  }

  /** Promise 2: "how many ANVILS there were": none, four. */
  private static void streetLeavesFour() {
    AnvilStreet x = new AnvilStreet();
    due("street, no anvils", x.street(1), 0);
    for (int i = 0; i < 4; i++) x.anvil(0, 0, 0, 0, 0);
    due("street, four anvils", x.street(1), 4);
    due("street, none again", x.street(1), 0);
    due("of what was there", x.of(0, 0), -2);
    for (int i = 0; i < 4; i++) due("anvil", x.anvil(1, 0, 0, 0, 0), i);
  }

  /** "ANVILS 0 .. 3", "FULL: 4". */
  private static void noAnvilsAndFour() {
    Supplier<AnvilStreet> four = () -> {
      AnvilStreet x = new AnvilStreet();
      for (int i = 0; i < 4; i++) due("anvil " + i, x.anvil(i, i, i, i, i), i);
      return x;
    };
    new Twins(CHECK, four).refused("a 5th anvil", x -> x.anvil(0, 0, 0, 0, 0), -4, Twins.FULL);
    new Twins(CHECK, four).refused("a 5th anvil, BAD", x -> x.anvil(0, 0, 0, 0, 21), -2, Twins.BAD);
    new Twins(CHECK, Twins::full).refused("a 5th anvil", x -> x.anvil(5, 20, 20, 20, 20), -4, Twins.FULL);
    AnvilStreet x = four.get();
    for (int a = 0; a < 4; a++) due("of " + a, x.of(a, 0), a);
    due("of 4", x.of(4, 0), -2);
  }

  /** KINDS 0 and 5, MEMORIES 0 and 20, each at its place. */
  private static void memoriesOfAnAnvil() {
    for (int t = 0; t < 4; t++) {
      AnvilStreet x = new AnvilStreet();
      int[] m = new int[4];
      m[t] = 20;
      x.anvil(5, m[0], m[1], m[2], m[3]);
      x.anvil(0, 20 - m[0], 20 - m[1], 20 - m[2], 20 - m[3]);
      due("kind 5", x.of(0, 0), 5);
      due("kind 0", x.of(1, 0), 0);
      for (int o = 0; o < 4; o++) {
        due("memory " + o, x.of(0, o + 1), o == t ? 20 : 0);
        due("memory " + o, x.of(1, o + 1), o == t ? 0 : 20);
      }
    }
  }

  /** "(999 at most)", "then the DAY is one more (999 stays; MEMORIES are less all the same)". */
  private static void theLastDay() {
    AnvilStreet x = withAnvil(4, 3);
    Twins.dayIs(x, 997);
    x.anvil(0, 20, 20, 20, 20);
    due("day 998", x.day(1), 998);
    due("day 999", x.day(1), 999);
    due("less behind 997 and 998", x.of(1, 1), 18);
    due("999 stays", x.day(1), 999);
    due("less all the same", x.of(1, 1), 17);
    due("999 stays", x.day(2), 999);
    due("count", x.count(1), 999);
    due("less all the same", x.of(1, 1), 15);
    due("undo", x.undo(), 999);
    due("undone", x.of(1, 1), 17);
    x.undo();
    due("undo", x.undo(), 998);
    AnvilStreet y = new AnvilStreet();
    Twins.dayIs(y, 940);
    y.anvil(0, 20, 20, 20, 20);
    due("59 days", y.day(59), 999);
    due("undo", y.undo(), 940);
    due("60 days, one too many", y.day(60), 999);
    // COLD doesn't fade on 999, SALT and OLD do, each time.
    int[][] behind = {{0, 4}, {1, 8}, {2, 4}, {3, 0}, {4, 8}, {5, 8}};
    for (int[] b : behind) {
      AnvilStreet z = new AnvilStreet();
      Twins.dayIs(z, 999);
      z.anvil(b[0], 8, 8, 8, 8);
      z.day(4);
      due("kind " + b[0] + ", four times behind 999", z.of(0, 1), b[1]);
    }
  }

  /** Promise 8: "n DAYS go by (1 .. 60 ..): the DAY." */
  private static void sixtyDays() {
    AnvilStreet x = withAnvil(2, 20);
    due("day 1", x.day(1), 1);
    due("old", x.of(0, 1), 19);
    due("day 60", x.day(60), 61);
    // behind 3, 6 .. 60: 20 times.
    due("old", x.of(0, 1), 0);
    AnvilStreet y = withAnvil(1, 20);
    due("day 39", y.day(39), 39);
    due("cold, behind 0, 2 .. 38", y.of(0, 1), 0);
    y.undo();
    due("day 38", y.day(38), 38);
    due("cold, behind 0, 2 .. 36", y.of(0, 1), 1);
    AnvilStreet z = new AnvilStreet();
    due("days without anvils", z.day(60), 60);
    new Twins(CHECK, Twins::full).refused("day 61", v -> v.day(61), -2, Twins.BAD);
    new Twins(CHECK, Twins::full).refused("day 0", v -> v.day(0), -2, Twins.BAD);
  }

  /** "together one that may be undone". */
  private static void manyDaysAreOneToUndo() {
    AnvilStreet x = withAnvil(0, 20);
    x.day(60);
    due("may be undone", x.count(5), 1);
    due("undo", x.undo(), 0);
    for (int t = 1; t <= 4; t++) due("memory", x.of(0, t), 20);
    due("undo", x.undo(), -3);
  }

  /** Promise 9: "an ANVIL remembers nothing of a TEMPER: what it did", nothing and 20. */
  private static void saltOfNothing() {
    AnvilStreet x = new AnvilStreet();
    x.anvil(4, 0, 20, 1, 7);
    int[] did = {0, 20, 1, 7};
    for (int t = 0; t < 4; t++) {
      due("salt " + t, x.salt(0, t), did[t]);
      due("memory " + t, x.of(0, t + 1), 0);
    }
    due("the kind stays", x.of(0, 0), 4);
    due("each may be undone", x.count(5), 4);
    due("salt again", x.salt(0, 1), 0);
    due("may be undone, too", x.count(5), 5);
    x.undo();
    x.undo();
    due("undone", x.of(0, 4), 7);
  }

  /** Promise 10: "THE HAND is told: what it was", also if it is the same. */
  private static void handAsItWas() {
    AnvilStreet x = new AnvilStreet();
    due("hand 0, as at first", x.hand(0), 0);
    due("may be undone", x.count(5), 1);
    due("hand 9", x.hand(9), 0);
    due("hand 9 again", x.hand(9), 9);
    due("hand 0", x.hand(0), 9);
    due("may be undone", x.count(5), 4);
    x.undo();
    due("undone", x.count(2), 9);
    x.street(7);
    due("hand behind street", x.hand(1), 7);
  }

  /** Promise 12: "KIND (0), MEMORY of TEMPER 0 to 3 (1 to 4)". */
  private static void ofEach() {
    Twins twins = new Twins(CHECK, () -> {
      AnvilStreet x = Twins.some();
      x.anvil(3, 0, 20, 1, 19);
      return x;
    });
    int[] told = {3, 0, 20, 1, 19};
    for (int what = 0; what <= 4; what++) {
      int w = what;
      twins.asked("of 2 " + what, x -> x.of(2, w), told[what]);
    }
    twins.refused("of 2 5", x -> x.of(2, 5), -2, Twins.BAD);
    twins.refused("of 2 -1", x -> x.of(2, -1), -2, Twins.BAD);
    twins.refused("of 3 0", x -> x.of(3, 0), -2, Twins.BAD);
  }

  /** Promise 11: "NO: none may be". */
  private static void nothingToUndo() {
    new Twins(CHECK, Twins::none).refused("undo of a new one", x -> x.undo(), -3, Twins.NO);
    new Twins(CHECK, () -> {
      AnvilStreet x = Twins.some();
      for (int i = 0; i < 4; i++) due("undo", x.undo() >= 0 ? 1 : 0, 1);
      return x;
    }).refused("undo of one too many", x -> x.undo(), -3, Twins.NO);
    AnvilStreet x = Twins.full();
    x.street(0);
    due("undo behind street", x.undo(), -3);
    due("counted", x.status(1), 1);
  }

  /** "(8 at most ..)". */
  private static void eightToUndo() {
    for (int made = 7; made <= 20; made++) {
      AnvilStreet x = withAnvil(4, 0);
      // Each gives one day, then one hand, one work and one salt water: every kind of them falls out once.
      for (int i = 0; i < made; i++) {
        if (i % 4 == 0) x.day(1);
        if (i % 4 == 1) x.hand(i % 10);
        if (i % 4 == 2) x.work(0, 1, 1);
        if (i % 4 == 3) x.salt(0, 1);
      }
      int may = Math.min(made, 8);
      due("may be undone of " + made, x.count(5), may);
      for (int left = may - 1; left >= 0; left--) {
        int before = made - may + left;
        due("undo", x.undo(), (before + 3) / 4);
        due("the memory", x.of(0, 2), before % 4 == 3 ? 1 : 0);
        // the last HAND told ahead of it was told as number 1, 5, 9 ..
        due("the hand", x.count(2), before < 2 ? 0 : ((before - 2) / 4 * 4 + 1) % 10);
        due("left", x.count(5), left);
      }
      due("undo beyond", x.undo(), -3);
    }
  }

  /** "behind an ANVIL that comes none may be". */
  private static void behindAnAnvil() {
    AnvilStreet x = new AnvilStreet();
    x.hand(3);
    x.day(2);
    x.anvil(0, 9, 9, 9, 9);
    due("may be undone", x.count(5), 0);
    new Twins(CHECK, () -> {
      AnvilStreet y = Twins.some();
      y.anvil(0, 0, 0, 0, 0);
      return y;
    }).refused("undo behind an anvil", y -> y.undo(), -3, Twins.NO);
    x.day(1);
    due("undo", x.undo(), 2);
    due("undo, to the anvil", x.undo(), -3);
    due("the anvil stays", x.count(0), 1);
    for (int i = 0; i < 8; i++) x.day(1);
    x.anvil(0, 0, 0, 0, 0);
    due("eight are gone, too", x.count(5), 0);
    x.day(1);
    x.anvil(6, 0, 0, 0, 0);
    due("one that is BAD takes none away", x.count(5), 1);
    AnvilStreet full = Twins.full();
    full.anvil(0, 0, 0, 0, 0);
    due("one that is FULL takes none away", full.count(5), 8);
  }

  private static void refusedIsNotUndone() {
    AnvilStreet x = Twins.some();
    int before = x.count(5);
    x.work(0, 0, 6);
    x.day(61);
    x.salt(2, 0);
    x.hand(10);
    x.street(10);
    due("may be undone", x.count(5), before);
    x.read();
    due("none behind a street that is read", x.count(5), 0);
  }

  /** "MEMORIES, the DAY, THE HAND as ahead of the last". */
  private static void whatUndoBringsBack() {
    AnvilStreet x = new AnvilStreet();
    x.street(2);
    for (int a = 0; a < 4; a++) x.anvil(a, 4 * a, 4 * a + 1, 4 * a + 2, 4 * a + 3);
    long first = x.digest();
    x.work(3, 3, 5);
    due("undo of a work", x.undo(), 0);
    due("as ahead of it", x.digest(), first);
    x.day(60);
    due("undo of days", x.undo(), 0);
    due("as ahead of it", x.digest(), first);
    x.salt(3, 3);
    due("undo of salt", x.undo(), 0);
    due("as ahead of it", x.digest(), first);
    x.hand(9);
    due("undo of a hand", x.undo(), 0);
    due("as ahead of it", x.digest(), first);
    AnvilStreet y = withAnvil(0, 20);
    y.work(0, 0, 5);
    y.undo();
    due("20 that were kept", y.of(0, 1), 20);
  }

  /** NOTES, CAME, THE TEXT, THE FRACTION, IMAGES and STATUS aren't undone. */
  private static void notAheadOfUndo() {
    AnvilStreet x = withAnvil(0, 9);
    x.day(1);
    x.note(0, 1, 1, 1);
    x.came(0, 1, 1, 1);
    x.type(65);
    x.frost(0, 5);
    x.image(0);
    x.day(0);
    due("undo", x.undo(), 0);
    int[] counts = {1, 0, 0, 1, 1, 0, 1};
    for (int what = 0; what <= 6; what++) due("count " + what, x.count(what), counts[what]);
    due("above", x.part(0), 16);
    due("status", x.status(0), 1);
    due("undo itself is not undone", x.undo(), -3);
    due("from 0", x.from(0), 1);
    due("as kept", x.count(1), 1);
  }
}
