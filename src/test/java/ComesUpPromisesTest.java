/** Promises 13 to 20: what comes up. */
public final class ComesUpPromisesTest {
  private static final Check CHECK = new Check();

  public static void main(String[] args) {
    upAndForeign();
    then();
    clean();
    keep();
    best();
    orders();
    ordersOneBehindTheOther();
    ordersFirstWay();
    ordersRefused();
    waits();
    nothingIsChanged();
    CHECK.end();
  }

  private static void due(String call, long got, long want) {
    CHECK.due(call, got, want);
  }

  private static void upAndForeign() {
    AnvilStreet x = new AnvilStreet();
    due("up, no anvil", x.up(0, 0), -2);
    due("foreign, no anvil", x.foreign(0, 0), -2);
    x.street(2);
    x.anvil(4, 0, 1, 5, 20);
    int[] up = {0, 2, 8, 38};
    for (int t = 0; t < 4; t++) {
      due("up " + t, x.up(0, t), up[t]);
      due("foreign " + t, x.foreign(0, t), 48 - up[t]);
    }
    for (int t = -1; t <= 4; t += 5) {
      due("up t " + t, x.up(0, t), -2);
      due("foreign t " + t, x.foreign(0, t), -2);
    }
    for (int a = -1; a <= 1; a += 2) {
      due("up a " + a, x.up(a, 0), -2);
      due("foreign a " + a, x.foreign(a, 0), -2);
    }
    x.hand(0);
    x.anvil(4, 20, 20, 20, 20);
    due("most foreign", x.foreign(1, 1), 126);
  }

  private static void then() {
    AnvilStreet x = new AnvilStreet();
    due("then, no anvil", x.then(0, 0, 0), -2);
    x.anvil(1, 20, 5, 0, 1);
    x.anvil(2, 20, 5, 0, 1);
    due("then 0", x.then(0, 0, 0), 20);
    due("then 1", x.then(0, 0, 1), 19);
    due("then 2", x.then(0, 0, 2), 19);
    due("then 3", x.then(0, 0, 3), 18);
    due("then 39", x.then(0, 0, 39), 0);
    due("then 38", x.then(0, 0, 38), 1);
    due("then 90", x.then(0, 1, 90), 0);
    due("then, old", x.then(1, 0, 57), 1);
    due("then, old", x.then(1, 0, 58), 0);
    x.day(1);
    due("then, on from an odd day", x.then(0, 0, 1), 19);
    due("then, on from an odd day", x.then(0, 0, 2), 18);
    // OLD fades behind 3, not behind 1 and 2.
    due("then, old, on from day 1", x.then(1, 0, 2), 19);
    due("then, old, on from day 1", x.then(1, 0, 3), 18);
    due("then -1", x.then(0, 0, -1), -2);
    due("then 91", x.then(0, 0, 91), -2);
    due("then t", x.then(0, 4, 0), -2);
    due("then t", x.then(0, -1, 0), -2);
    due("then a", x.then(2, 0, 0), -2);
    due("then a", x.then(-1, 0, 0), -2);
  }

  private static void clean() {
    AnvilStreet x = new AnvilStreet();
    due("clean, no anvil", x.clean(0), -2);
    x.anvil(0, 0, 7, 0, 3);
    x.anvil(2, 20, 0, 0, 0);
    x.anvil(4, 0, 0, 0, 1);
    x.anvil(4, 0, 0, 0, 0);
    due("clean plain", x.clean(0), 7);
    due("clean old", x.clean(1), 58);
    due("clean stone", x.clean(2), -1);
    due("clean, nothing there", x.clean(3), 0);
    due("clean 4", x.clean(4), -2);
    due("clean -1", x.clean(-1), -2);
    x.day(1);
    // the next DAY by which OLD fades is 3, the 19th of them is 57.
    due("clean old, later", x.clean(1), 57);
  }

  private static void keep() {
    AnvilStreet x = new AnvilStreet();
    due("keep, no anvil", x.keep(0), -2);
    x.street(5);
    x.anvil(0, 3, 9, 0, 1);
    x.anvil(0, 0, 0, 10, 0);
    x.anvil(5, 20, 10, 4, 0);
    x.anvil(2, 0, 0, 0, 0);
    due("keep 0", x.keep(0), 9);
    due("keep 1", x.keep(1), -1);
    due("keep 2", x.keep(2), 4);
    due("keep 3", x.keep(3), 0);
    due("the hand stays", x.count(2), 5);
    due("keep 4", x.keep(4), -2);
    due("keep -1", x.keep(-1), -2);
    AnvilStreet y = new AnvilStreet();
    y.anvil(2, 0, 1, 0, 0);
    due("keep old", y.keep(0), -1);
    for (int t = 0; t < 4; t++) {
      AnvilStreet z = new AnvilStreet();
      z.anvil(0, t == 0 ? 6 : 0, t == 1 ? 6 : 0, t == 2 ? 6 : 0, t == 3 ? 6 : 0);
      due("keep of temper " + t, z.keep(0), 6);
      due("clean of temper " + t, z.clean(0), 6);
    }
  }

  private static void best() {
    AnvilStreet x = new AnvilStreet();
    due("best, no anvils", x.best(0), -1);
    due("best 4", x.best(4), -2);
    due("best -1", x.best(-1), -2);
    x.anvil(0, 1, 2, 0, 3);
    due("best of one", x.best(2), 0);
    x.anvil(0, 3, 0, 2, 1);
    x.anvil(0, 0, 3, 2, 1);
    x.anvil(0, 3, 1, 1, 1);
    // FOREIGN 5, 3, 6, 3; of like ones both 3 come up: the first.
    due("best 0", x.best(0), 1);
    // 4, 6, 3, 5
    due("best 1", x.best(1), 2);
    // 6, 4, 4, 5, and 2 of both
    due("best 2", x.best(2), 1);
    // 3, 5, 5, 5
    due("best 3", x.best(3), 0);
    AnvilStreet y = new AnvilStreet();
    y.anvil(0, 0, 4, 0, 0);
    y.anvil(0, 5, 4, 0, 0);
    y.anvil(0, 7, 0, 4, 0);
    y.anvil(0, 7, 0, 0, 4);
    due("best by most of its own", y.best(0), 2);
  }

  private static void orders() {
    AnvilStreet x = new AnvilStreet();
    due("orders, no anvils", x.orders(1234, 5, -1), -1);
    due("orders, no anvils", x.orders(0, 1, 7), -1);
    x.anvil(0, 1, 2, 0, 3);
    x.anvil(0, 3, 0, 2, 1);
    due("orders 0", x.orders(0, 1, -1), 0);
    due("orders 0, the 0th", x.orders(0, 1, 0), -5);
    due("orders 1", x.orders(1, 1, -1), 3);
    due("orders 1, the 0th", x.orders(1, 1, 0), 1);
    due("orders 1, the 1st", x.orders(1, 1, 1), -5);
    due("orders 1, far", x.orders(1, 1, Integer.MAX_VALUE), -5);
    // temper 3, then temper 0: 3 on anvil 0, 3 on anvil 1
    due("orders 41", x.orders(41, 5, -1), 6);
    due("orders 41, the 0th", x.orders(41, 5, 0), 0);
    due("orders 41, the 1st", x.orders(41, 5, 1), 1);
    due("orders 41, the 2nd", x.orders(41, 5, 2), -5);
    due("none are refused", x.status(0), 0);
  }

  private static void ordersOneBehindTheOther() {
    AnvilStreet x = new AnvilStreet();
    x.anvil(0, 0, 0, 0, 0);
    // 0, 5, 10, 15
    due("orders 1234, one anvil", x.orders(1234, 5, -1), 30);
    // 0, 0, 5, 0: the second and fourth add nothing of another temper
    due("orders 1121, one anvil", x.orders(1121, 2, -1), 0 + 0 + 4 + 2);
    x.anvil(3, 0, 0, 0, 0);
    // salt: 1 by 2 blows; the plain one is left to the first
    due("orders 12, two anvils", x.orders(12, 2, -1), 0);
    due("orders 12, the 1st", x.orders(12, 2, 1), 1);
    // on salt 1, 2, on salt again 3 costs least by 1, with the third on salt, too
    due("orders 123, two anvils", x.orders(123, 2, -1), 1);
    due("orders 123, the 0th", x.orders(123, 2, 0), 0);
    due("orders 123, the 1st", x.orders(123, 2, 1), 1);
    due("orders 123, the 2nd", x.orders(123, 2, 2), 1);
    due("all stays", x.of(0, 1) + x.of(1, 1) + x.count(5), 0);
  }

  private static void ordersFirstWay() {
    AnvilStreet x = new AnvilStreet();
    for (int i = 0; i < 4; i++) x.anvil(0, 0, 0, 0, 0);
    int[] first = {0, 1, 2, 3};
    for (int i = 0; i < 4; i++) due("orders 1234, the " + i, x.orders(1234, 1, i), first[i]);
    due("orders 1234", x.orders(1234, 1, -1), 0);
    int[] same = {0, 0, 1, 0};
    for (int i = 0; i < 4; i++) due("orders 1121, the " + i, x.orders(1121, 1, i), same[i]);
  }

  private static void ordersRefused() {
    AnvilStreet x = new AnvilStreet();
    int[] bad = {-1, 5, 10, 40, 104, 1005, 1204, 4445, 5111, 11111, 12341, Integer.MAX_VALUE, Integer.MIN_VALUE};
    for (int w : bad) due("orders " + w, x.orders(w, 1, -1), -10);
    due("orders n 0", x.orders(1, 0, -1), -10);
    due("orders n 6", x.orders(1, 6, -1), -10);
    due("orders i -2", x.orders(1, 1, -2), -10);
    due("orders i least", x.orders(1, 1, Integer.MIN_VALUE), -10);
    due("counted", x.status(0), bad.length + 4);
    x.anvil(0, 0, 0, 0, 0);
    due("orders 4444", x.orders(4444, 5, -1), 0);
    due("orders 1111", x.orders(1111, 5, 3), 0);
  }

  private static void waits() {
    AnvilStreet x = new AnvilStreet();
    due("waits, no anvil", x.waits(0, 0, 0, 0), -2);
    x.anvil(0, 10, 4, 4, 0);
    due("waits, now", x.waits(0, 0, 8, 10), 0);
    due("waits 1", x.waits(0, 0, 7, 1), 1);
    due("waits 4", x.waits(0, 0, 0, 6), 4);
    due("waits, none", x.waits(0, 0, 0, 7), -1);
    due("waits 10", x.waits(0, 1, 0, 0), 10);
    due("waits, none", x.waits(0, 1, 0, 1), -1);
    x.anvil(2, 11, 1, 0, 0);
    x.anvil(2, 10, 1, 0, 0);
    // OLD fades behind 0, 3, .. 27 and 30: 11 of them are too many for 30 DAYS.
    due("waits 28", x.waits(2, 1, 0, 0), 28);
    due("waits, not 31", x.waits(1, 1, 0, 0), -1);
    x.day(1);
    // .. from DAY 1 on it fades behind 3, .. 30, the 30th DAY.
    due("waits 30", x.waits(1, 1, 0, 0), 30);
    due("waits x -1", x.waits(0, 0, -1, 0), -2);
    due("waits x 81", x.waits(0, 0, 81, 0), -2);
    due("waits x 80", x.waits(0, 0, 80, 0), 0);
    due("waits w -1", x.waits(0, 0, 0, -1), -2);
    due("waits w 51", x.waits(0, 0, 0, 51), -2);
    due("waits w 50", x.waits(0, 0, 80, 50), -1);
    due("waits t -1", x.waits(0, -1, 0, 0), -2);
    due("waits t 4", x.waits(0, 4, 0, 0), -2);
    due("waits a -1", x.waits(-1, 0, 0, 0), -2);
    due("waits a 3", x.waits(3, 0, 0, 0), -2);
  }

  private static void nothingIsChanged() {
    AnvilStreet x = new AnvilStreet();
    x.street(1);
    x.anvil(0, 10, 4, 4, 0);
    x.anvil(3, 11, 1, 20, 7);
    x.day(1);
    long before = x.digest();
    x.up(0, 0);
    x.foreign(0, 0);
    x.then(0, 0, 90);
    x.clean(0);
    x.keep(1);
    x.best(1);
    x.orders(1234, 3, -1);
    x.waits(1, 0, 0, 0);
    due("digest", x.digest(), before);
    due("of", x.of(1, 3), 9);
  }
}
