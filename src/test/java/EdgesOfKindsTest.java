import java.util.function.Supplier;

/** The boundaries that the Terms name: KINDS, BLOWS, what is kept, what comes UP, FOREIGN, a DAY. */
public final class EdgesOfKindsTest {
  private static final Check CHECK = new Check();
  private static final int PLAIN = 0, COLD = 1, OLD = 2, SALT = 3, STONE = 4, CLOTH = 5;

  public static void main(String[] args) {
    plainIsOneLessNothingAtLeast();
    coldFadesOnEvenDays();
    coldFadesAsPlain();
    oldFadesOnDaysThatLeaveNothingByThree();
    oldFadesAsPlain();
    saltKeepsHalfOfPlainCut();
    stoneKeepsAll();
    clothFadesAsCold();
    plainComesUpLessTheHand();
    coldComesUpHalfCutUp();
    oldComesUpOneMoreIfThereIsAny();
    saltComesUpAsPlain();
    stoneComesUpTwiceOld();
    clothHidesTenAndMore();
    blowsOfEachKind();
    twentyAreKept();
    comesUpAheadOfTheBlows();
    foreignIsOfTheOthers();
    CHECK.end();
  }

  private static void left(int kind, int day, int m, int want) {
    AnvilStreet x = new AnvilStreet();
    Twins.dayIs(x, day);
    x.anvil(kind, m, 0, 0, m);
    String call = "kind " + kind + ", " + m + " behind day " + day;
    CHECK.due(call + ", then", x.then(0, 0, 1), want);
    x.day(1);
    CHECK.due(call + ", temper 0", x.of(0, 1), want);
    CHECK.due(call + ", temper 3", x.of(0, 4), want);
    CHECK.due(call + ", what was nothing", x.of(0, 2), 0);
  }

  private static void lefts(int kind, int day, int[]... fromTo) {
    for (int[] pair : fromTo) left(kind, day, pair[0], pair[1]);
  }

  /** "0 PLAIN: m less 1, 0 at least". */
  private static void plainIsOneLessNothingAtLeast() {
    for (int day : new int[] {0, 1, 2, 3, 998, 999}) {
      lefts(PLAIN, day, new int[][] {{0, 0}, {1, 0}, {2, 1}, {19, 18}, {20, 19}});
    }
  }

  /** "1 COLD: as PLAIN on DAYS of an even number, else m". */
  private static void coldFadesOnEvenDays() {
    for (int day : new int[] {0, 2, 4, 6, 100, 998}) left(COLD, day, 7, 6);
    for (int day : new int[] {1, 3, 5, 99, 997, 999}) left(COLD, day, 7, 7);
  }

  private static void coldFadesAsPlain() {
    lefts(COLD, 0, new int[][] {{0, 0}, {1, 0}, {2, 1}, {20, 19}});
    lefts(COLD, 1, new int[][] {{0, 0}, {1, 1}, {2, 2}, {20, 20}});
  }

  /** "2 OLD: as PLAIN on DAYS that leave 0 by 3, else m". */
  private static void oldFadesOnDaysThatLeaveNothingByThree() {
    for (int day : new int[] {0, 3, 6, 9, 99, 996, 999}) left(OLD, day, 7, 6);
    for (int day : new int[] {1, 2, 4, 5, 7, 8, 100, 101, 997, 998}) left(OLD, day, 7, 7);
  }

  private static void oldFadesAsPlain() {
    lefts(OLD, 3, new int[][] {{0, 0}, {1, 0}, {2, 1}, {20, 19}});
    lefts(OLD, 2, new int[][] {{0, 0}, {1, 1}, {2, 2}, {20, 20}});
  }

  /** "3 SALT: half (cut) of PLAIN". */
  private static void saltKeepsHalfOfPlainCut() {
    for (int day : new int[] {0, 1, 2, 3, 999}) {
      lefts(SALT, day, new int[][] {{0, 0}, {1, 0}, {2, 0}, {3, 1}, {4, 1}, {5, 2}, {19, 9}, {20, 9}});
    }
  }

  /** "4 STONE: m". */
  private static void stoneKeepsAll() {
    for (int day : new int[] {0, 1, 2, 3, 6, 998, 999}) {
      lefts(STONE, day, new int[][] {{0, 0}, {1, 1}, {2, 2}, {20, 20}});
    }
  }

  /** "5 CLOTH: as COLD". */
  private static void clothFadesAsCold() {
    for (int day : new int[] {0, 2, 4, 998}) lefts(CLOTH, day, new int[][] {{0, 0}, {1, 0}, {2, 1}, {10, 9}, {20, 19}});
    for (int day : new int[] {1, 3, 9, 999}) lefts(CLOTH, day, new int[][] {{0, 0}, {1, 1}, {2, 2}, {10, 10}, {20, 20}});
  }

  /** For each row of m, h and how much comes UP. */
  private static void ups(int kind, int[]... rows) {
    for (int[] row : rows) {
      AnvilStreet x = new AnvilStreet();
      x.street(row[1]);
      x.anvil(kind, 0, row[0], 0, 0);
      String call = "kind " + kind + ", of " + row[0] + " by hand " + row[1];
      CHECK.due(call, x.up(0, 1), row[2]);
      CHECK.due(call + ", another temper", x.up(0, 0), 0);
      CHECK.due(call + ", as foreign", x.foreign(0, 2), row[2]);
    }
  }

  /** "m less h, 0 at least". */
  private static void plainComesUpLessTheHand() {
    ups(PLAIN, new int[][] {{0, 0, 0}, {1, 0, 1}, {20, 0, 20}, {0, 1, 0}, {1, 1, 0}, {2, 1, 1}, {0, 9, 0}, {8, 9, 0},
        {9, 9, 0}, {10, 9, 1}, {20, 9, 11}});
  }

  /** "half (cut up) of PLAIN". */
  private static void coldComesUpHalfCutUp() {
    ups(COLD, new int[][] {{0, 0, 0}, {1, 0, 1}, {2, 0, 1}, {3, 0, 2}, {4, 0, 2}, {19, 0, 10}, {20, 0, 10}, {4, 5, 0},
        {5, 5, 0}, {6, 5, 1}, {7, 5, 1}, {8, 5, 2}, {9, 9, 0}, {10, 9, 1}, {20, 9, 6}});
  }

  /** "PLAIN and 1, if m is 1 or more, else as PLAIN". */
  private static void oldComesUpOneMoreIfThereIsAny() {
    ups(OLD, new int[][] {{0, 0, 0}, {0, 1, 0}, {0, 9, 0}, {1, 0, 2}, {1, 1, 1}, {1, 9, 1}, {2, 0, 3}, {2, 1, 2},
        {9, 9, 1}, {10, 9, 2}, {20, 0, 21}, {20, 9, 12}});
  }

  /** "as PLAIN". */
  private static void saltComesUpAsPlain() {
    ups(SALT, new int[][] {{0, 0, 0}, {1, 0, 1}, {20, 0, 20}, {1, 1, 0}, {2, 1, 1}, {9, 9, 0}, {10, 9, 1}, {20, 9, 11}});
  }

  /** "twice OLD". */
  private static void stoneComesUpTwiceOld() {
    ups(STONE, new int[][] {{0, 0, 0}, {0, 9, 0}, {1, 0, 4}, {1, 1, 2}, {1, 9, 2}, {2, 0, 6}, {9, 9, 2}, {10, 9, 4},
        {20, 0, 42}, {20, 9, 24}});
  }

  /** "0, if m is 10 or more, else as COLD". */
  private static void clothHidesTenAndMore() {
    ups(CLOTH, new int[][] {{0, 0, 0}, {1, 0, 1}, {2, 0, 1}, {8, 0, 4}, {9, 0, 5}, {10, 0, 0}, {11, 0, 0}, {20, 0, 0},
        {8, 9, 0}, {9, 9, 0}, {9, 8, 1}, {9, 7, 1}, {9, 6, 2}, {10, 9, 0}, {20, 9, 0}});
  }

  private static int behindBlows(int kind, int m, int n) {
    AnvilStreet x = new AnvilStreet();
    x.anvil(kind, 0, 0, 0, m);
    x.work(0, 3, n);
    return x.of(0, 4);
  }

  /** BLOWS 1 to 5: "n"; "as PLAIN"; "half (cut up) of PLAIN"; "as OLD"; "twice COLD". */
  private static void blowsOfEachKind() {
    int[][] more = {{1, 2, 3, 4, 5}, {1, 2, 3, 4, 5}, {1, 2, 3, 4, 5}, {1, 1, 2, 2, 3}, {1, 2, 3, 4, 5}, {2, 4, 6, 8, 10}};
    for (int kind = 0; kind < 6; kind++) {
      for (int n = 1; n <= 5; n++) {
        CHECK.due("kind " + kind + ", " + n + " blows on nothing", behindBlows(kind, 0, n), more[kind][n - 1]);
      }
    }
  }

  /** "(20 kept)". */
  private static void twentyAreKept() {
    for (int kind : new int[] {PLAIN, COLD, OLD, STONE}) {
      String name = "kind " + kind;
      CHECK.due(name + ", 14 and 5", behindBlows(kind, 14, 5), 19);
      CHECK.due(name + ", 15 and 5", behindBlows(kind, 15, 5), 20);
      CHECK.due(name + ", 16 and 5", behindBlows(kind, 16, 5), 20);
      CHECK.due(name + ", 19 and 1", behindBlows(kind, 19, 1), 20);
      CHECK.due(name + ", 20 and 1", behindBlows(kind, 20, 1), 20);
      CHECK.due(name + ", 20 and 5", behindBlows(kind, 20, 5), 20);
    }
    CHECK.due("salt, 16 and 3", behindBlows(SALT, 16, 5), 19);
    CHECK.due("salt, 17 and 3", behindBlows(SALT, 17, 5), 20);
    CHECK.due("salt, 18 and 3", behindBlows(SALT, 18, 5), 20);
    CHECK.due("salt, 20 and 1", behindBlows(SALT, 20, 1), 20);
    CHECK.due("cloth, 9 and 10", behindBlows(CLOTH, 9, 5), 19);
    CHECK.due("cloth, 10 and 10", behindBlows(CLOTH, 10, 5), 20);
    CHECK.due("cloth, 11 and 10", behindBlows(CLOTH, 11, 5), 20);
    CHECK.due("cloth, 19 and 2", behindBlows(CLOTH, 19, 1), 20);
  }

  /** "of each TEMPER so much comes UP into it; then the MEMORY of its own TEMPER is as much more". */
  private static void comesUpAheadOfTheBlows() {
    AnvilStreet x = new AnvilStreet();
    x.anvil(PLAIN, 0, 0, 0, 0);
    CHECK.due("the first work", x.work(0, 2, 5), 0);
    CHECK.due("its own again", x.work(0, 2, 5), 0);
    CHECK.due("another", x.work(0, 1, 5), 10);
    CHECK.due("of the other tempers none is more", x.of(0, 1) + x.of(0, 4), 0);
  }

  /** "FOREIGN in it: all that comes UP of other TEMPERS together." */
  private static void foreignIsOfTheOthers() {
    int[] all = {1, 20, 3, 7};
    Supplier<AnvilStreet> made = () -> {
      AnvilStreet x = new AnvilStreet();
      x.anvil(PLAIN, 1, 20, 3, 7);
      return x;
    };
    for (int t = 0; t < 4; t++) {
      CHECK.due("foreign of temper " + t, made.get().foreign(0, t), 31 - all[t]);
      CHECK.due("work of temper " + t, made.get().work(0, t, 1), 31 - all[t]);
    }
    AnvilStreet x = new AnvilStreet();
    x.anvil(STONE, 20, 20, 20, 20);
    CHECK.due("the most there is", x.work(0, 0, 5), 126);
    AnvilStreet y = new AnvilStreet();
    y.anvil(STONE, 20, 0, 0, 0);
    CHECK.due("of its own alone none", y.work(0, 0, 5), 0);
  }
}
