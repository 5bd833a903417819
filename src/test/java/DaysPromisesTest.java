/** Promises 7 to 12: days; and what the KINDS say of them. */
public final class DaysPromisesTest {
  private static final Check CHECK = new Check();

  public static void main(String[] args) {
    fading();
    coming();
    blows();
    work();
    workTakesWhatComesUpFirst();
    day();
    lastDay();
    salt();
    hand();
    undo();
    undoOfEach();
    undoAtMostEight();
    of();
    CHECK.end();
  }

  private static void due(String call, long got, long want) {
    CHECK.due(call, got, want);
  }

  /** MEMORIES 9, 2, 1, 0 of an ANVIL of each KIND behind DAYS 0 to 6. */
  private static void fading() {
    int[][][] left = {
      {{8, 1, 0, 0}, {7, 0, 0, 0}, {6, 0, 0, 0}, {5, 0, 0, 0}, {4, 0, 0, 0}, {3, 0, 0, 0}, {2, 0, 0, 0}},
      {{8, 1, 0, 0}, {8, 1, 0, 0}, {7, 0, 0, 0}, {7, 0, 0, 0}, {6, 0, 0, 0}, {6, 0, 0, 0}, {5, 0, 0, 0}},
      {{8, 1, 0, 0}, {8, 1, 0, 0}, {8, 1, 0, 0}, {7, 0, 0, 0}, {7, 0, 0, 0}, {7, 0, 0, 0}, {6, 0, 0, 0}},
      {{4, 0, 0, 0}, {1, 0, 0, 0}, {0, 0, 0, 0}, {0, 0, 0, 0}, {0, 0, 0, 0}, {0, 0, 0, 0}, {0, 0, 0, 0}},
      {{9, 2, 1, 0}, {9, 2, 1, 0}, {9, 2, 1, 0}, {9, 2, 1, 0}, {9, 2, 1, 0}, {9, 2, 1, 0}, {9, 2, 1, 0}},
      {{8, 1, 0, 0}, {8, 1, 0, 0}, {7, 0, 0, 0}, {7, 0, 0, 0}, {6, 0, 0, 0}, {6, 0, 0, 0}, {5, 0, 0, 0}}};
    for (int kind = 0; kind < 6; kind++) {
      AnvilStreet x = new AnvilStreet();
      x.anvil(kind, 9, 2, 1, 0);
      for (int d = 0; d <= 6; d++) {
        due("day 1", x.day(1), d + 1);
        for (int t = 0; t < 4; t++) due("kind " + kind + ", behind day " + d + ", temper " + t, x.of(0, t + 1), left[kind][d][t]);
      }
    }
  }

  /** What comes UP of MEMORIES 0, 1, 9, 10 by HANDS 0, 1, 4 and 9. */
  private static void coming() {
    int[][][] up = {
      {{0, 1, 9, 10}, {0, 0, 8, 9}, {0, 0, 5, 6}, {0, 0, 0, 1}},
      {{0, 1, 5, 5}, {0, 0, 4, 5}, {0, 0, 3, 3}, {0, 0, 0, 1}},
      {{0, 2, 10, 11}, {0, 1, 9, 10}, {0, 1, 6, 7}, {0, 1, 1, 2}},
      {{0, 1, 9, 10}, {0, 0, 8, 9}, {0, 0, 5, 6}, {0, 0, 0, 1}},
      {{0, 4, 20, 22}, {0, 2, 18, 20}, {0, 2, 12, 14}, {0, 2, 2, 4}},
      {{0, 1, 5, 0}, {0, 0, 4, 0}, {0, 0, 3, 0}, {0, 0, 0, 0}}};
    int[] hands = {0, 1, 4, 9};
    for (int kind = 0; kind < 6; kind++) {
      AnvilStreet x = new AnvilStreet();
      x.anvil(kind, 0, 1, 9, 10);
      for (int i = 0; i < 4; i++) {
        x.hand(hands[i]);
        for (int t = 0; t < 4; t++) due("kind " + kind + ", hand " + hands[i] + ", up " + t, x.up(0, t), up[kind][i][t]);
      }
    }
  }

  private static void blows() {
    int[][] more = {{1, 2, 3, 4, 5}, {1, 2, 3, 4, 5}, {1, 2, 3, 4, 5}, {1, 1, 2, 2, 3}, {1, 2, 3, 4, 5}, {2, 4, 6, 8, 10}};
    for (int kind = 0; kind < 6; kind++) {
      for (int n = 1; n <= 5; n++) {
        AnvilStreet x = new AnvilStreet();
        x.anvil(kind, 3, 3, 3, 3);
        x.work(0, 2, n);
        due("kind " + kind + ", blows " + n, x.of(0, 3), 3 + more[kind][n - 1]);
        due("kind " + kind + ", blows " + n + ", another", x.of(0, 1), 3);
      }
    }
  }

  private static void work() {
    AnvilStreet x = new AnvilStreet();
    due("work, no anvil", x.work(0, 0, 1), -2);
    x.street(2);
    x.anvil(0, 5, 6, 1, 20);
    due("work -1", x.work(-1, 0, 1), -2);
    due("work 1", x.work(1, 0, 1), -2);
    due("work t -1", x.work(0, -1, 1), -2);
    due("work t 4", x.work(0, 4, 1), -2);
    due("work n 0", x.work(0, 0, 0), -2);
    due("work n 6", x.work(0, 0, 6), -2);
    due("nothing to undo", x.count(5), 0);
    due("work 0 0 5", x.work(0, 0, 5), 4 + 0 + 18);
    due("memory", x.of(0, 1), 10);
    due("work 0 3 1", x.work(0, 3, 1), 8 + 4 + 0);
    due("20 kept", x.of(0, 4), 20);
    x.anvil(5, 11, 0, 0, 0);
    due("work 1 0 5", x.work(1, 0, 5), 0);
    due("20 kept", x.of(1, 1), 20);
    due("the day stays", x.count(1), 0);
  }

  private static void workTakesWhatComesUpFirst() {
    AnvilStreet x = new AnvilStreet();
    x.anvil(0, 0, 0, 0, 0);
    due("work 0 0 3", x.work(0, 0, 3), 0);
    due("work 0 0 3", x.work(0, 0, 3), 0);
    due("work 0 1 2", x.work(0, 1, 2), 6);
    due("work 0 0 1", x.work(0, 0, 1), 2);
  }

  private static void day() {
    AnvilStreet x = new AnvilStreet();
    due("day 0", x.day(0), -2);
    due("day 61", x.day(61), -2);
    due("day -1", x.day(-1), -2);
    x.anvil(0, 20, 20, 20, 20);
    x.anvil(1, 20, 20, 20, 20);
    due("day 5", x.day(5), 5);
    due("of 0", x.of(0, 1), 15);
    due("of 1", x.of(1, 4), 17);
    due("day 60", x.day(60), 65);
    due("together one", x.count(5), 2);
    due("undo", x.undo(), 5);
    due("of 0", x.of(0, 1), 15);
  }

  private static void lastDay() {
    AnvilStreet x = new AnvilStreet();
    for (int i = 1; i <= 16; i++) x.day(60);
    due("day 38", x.day(38), 998);
    x.anvil(0, 9, 9, 9, 9);
    x.anvil(1, 9, 9, 9, 9);
    x.anvil(2, 9, 9, 9, 9);
    due("day 1", x.day(1), 999);
    due("plain", x.of(0, 1), 8);
    due("cold", x.of(1, 1), 8);
    due("old", x.of(2, 1), 9);
    due("day 3", x.day(3), 999);
    due("plain", x.of(0, 1), 5);
    // 999 is odd, and leaves 0 by 3, each time.
    due("cold", x.of(1, 1), 8);
    due("old", x.of(2, 1), 6);
    // in what is asked DAYS go on: 999, 1000, 1001, 1002.
    due("then cold", x.then(1, 1, 4), 6);
    due("then old", x.then(2, 1, 4), 4);
    due("clean cold", x.clean(1), 16);
    // half of 8, cut up, is half of 7: FOREIGN is 12 until 6 are left, behind 1002.
    due("waits cold", x.waits(1, 0, 11, 0), 4);
  }

  private static void salt() {
    AnvilStreet x = new AnvilStreet();
    due("salt, no anvil", x.salt(0, 0), -2);
    x.anvil(4, 1, 2, 3, 20);
    due("salt -1", x.salt(-1, 0), -2);
    due("salt 1", x.salt(1, 0), -2);
    due("salt t -1", x.salt(0, -1), -2);
    due("salt t 4", x.salt(0, 4), -2);
    due("salt 0 3", x.salt(0, 3), 20);
    due("memory", x.of(0, 4), 0);
    due("another", x.of(0, 3), 3);
    due("salt 0 3", x.salt(0, 3), 0);
    due("may be undone", x.count(5), 2);
  }

  private static void hand() {
    AnvilStreet x = new AnvilStreet();
    due("hand -1", x.hand(-1), -2);
    due("hand 10", x.hand(10), -2);
    due("hand 9", x.hand(9), 0);
    due("hand 0", x.hand(0), 9);
    due("hand 0", x.hand(0), 0);
    due("may be undone", x.count(5), 3);
    x.undo();
    x.undo();
    due("the hand", x.count(2), 9);
  }

  private static void undo() {
    AnvilStreet x = new AnvilStreet();
    due("undo", x.undo(), -3);
    due("counted", x.status(1), 1);
    x.anvil(0, 4, 4, 4, 4);
    due("undo behind an anvil", x.undo(), -3);
    x.day(2);
    x.anvil(0, 4, 4, 4, 4);
    due("undo behind an anvil", x.undo(), -3);
    due("the day stays", x.count(1), 2);
    x.day(1);
    due("anvil, refused", x.anvil(6, 0, 0, 0, 0), -2);
    due("undo behind one refused", x.undo(), 2);
    x.note(0, 1, 1, 1);
    x.came(0, 1, 1, 1);
    x.day(1);
    x.forget(0);
    due("undo", x.undo(), 2);
    due("notes stay", x.count(3), 0);
    due("came stays", x.count(4), 1);
  }

  private static void undoOfEach() {
    AnvilStreet x = new AnvilStreet();
    x.street(1);
    x.anvil(0, 4, 5, 6, 7);
    x.anvil(3, 14, 15, 16, 17);
    x.day(1);
    x.work(0, 1, 5);
    x.hand(7);
    x.salt(1, 3);
    int[] memories = {3, 9, 5, 6, 6, 7, 7, 0};
    for (int i = 0; i < 8; i++) due("of", x.of(i / 4, i % 4 + 1), memories[i]);
    due("undo salt", x.undo(), 1);
    due("undone", x.of(1, 4), 8);
    due("the hand", x.count(2), 7);
    due("undo hand", x.undo(), 1);
    due("the hand", x.count(2), 1);
    due("the work", x.of(0, 2), 9);
    due("undo work", x.undo(), 1);
    due("the work", x.of(0, 2), 4);
    due("undo day", x.undo(), 0);
    int[] first = {4, 5, 6, 7, 14, 15, 16, 17};
    for (int i = 0; i < 8; i++) due("of", x.of(i / 4, i % 4 + 1), first[i]);
    due("undo", x.undo(), -3);
  }

  private static void undoAtMostEight() {
    AnvilStreet x = new AnvilStreet();
    x.anvil(0, 20, 0, 0, 0);
    for (int i = 1; i <= 9; i++) {
      x.day(1);
      due("may be undone", x.count(5), Math.min(i, 8));
    }
    x.hand(5);
    due("may be undone", x.count(5), 8);
    due("undo hand", x.undo(), 9);
    due("the hand", x.count(2), 0);
    for (int i = 8; i >= 2; i--) {
      due("undo", x.undo(), i);
      due("memory", x.of(0, 1), 20 - i);
    }
    due("undo", x.undo(), -3);
    due("the day", x.count(1), 2);
    x.day(3);
    due("undo", x.undo(), 2);
    AnvilStreet y = new AnvilStreet();
    for (int h = 0; h <= 9; h++) y.hand(h);
    for (int h = 8; h >= 1; h--) {
      due("undo", y.undo(), 0);
      due("the hand", y.count(2), h);
    }
    due("undo", y.undo(), -3);
  }

  private static void of() {
    AnvilStreet x = new AnvilStreet();
    due("of, no anvil", x.of(0, 0), -2);
    x.anvil(4, 1, 2, 3, 20);
    x.anvil(5, 6, 7, 8, 9);
    int[][] all = {{4, 1, 2, 3, 20}, {5, 6, 7, 8, 9}};
    for (int a = 0; a < 2; a++) for (int what = 0; what < 5; what++) due("of", x.of(a, what), all[a][what]);
    due("of 0 5", x.of(0, 5), -2);
    due("of 0 -1", x.of(0, -1), -2);
    due("of -1 0", x.of(-1, 0), -2);
    due("of 2 0", x.of(2, 0), -2);
  }
}
