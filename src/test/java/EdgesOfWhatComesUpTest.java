import java.util.function.Supplier;

/** The boundaries of what comes UP: promises 13 to 20. "(Nothing is changed by these; DAYS go beyond 999 in them.)" */
public final class EdgesOfWhatComesUpTest {
  private static final Check CHECK = new Check();
  private static final int PLAIN = 0, COLD = 1, OLD = 2, SALT = 3, STONE = 4, CLOTH = 5;
  private static final int MOST = Integer.MAX_VALUE;

  public static void main(String[] args) {
    nothingIsChanged();
    upNow();
    thenNowAndNinety();
    thenBeyondTheLastDay();
    cleanAtOnceAndLast();
    cleanOfEachTemper();
    cleanBeyondTheLastDay();
    keepByNoneAndNine();
    keepByTheKind();
    bestOfNone();
    bestOfLikeOnes();
    worksAsTold();
    worksNotAsTold();
    ordersWithoutAnvils();
    notSoManyOrders();
    ordersOneBehindTheOther();
    ordersInTheFirstWay();
    ordersByTheHand();
    waitsNotAtAll();
    waitsThirtyAtMost();
    waitsForBoth();
    waitsByTheMost();
    waitsBeyondTheLastDay();
    CHECK.end();
  }

  private static void due(String call, long got, long want) {
    CHECK.due(call, got, want);
  }

  /** A street on a DAY, by a HAND, with ANVILS of a KIND and four MEMORIES each. */
  private static AnvilStreet made(int day, int hand, int[]... anvils) {
    AnvilStreet x = new AnvilStreet();
    x.street(hand);
    Twins.dayIs(x, day);
    for (int[] a : anvils) x.anvil(a[0], a[1], a[2], a[3], a[4]);
    return x;
  }

  private static AnvilStreet one(int day, int kind, int m) {
    return made(day, 0, new int[] {kind, 0, m, 0, 0});
  }

  /** "(Nothing is changed by these ..)": whatever they answer, NONE and -5, too, and none of it is counted. */
  private static void nothingIsChanged() {
    Twins some = new Twins(CHECK, Twins::some);
    // ANVIL 0 is OLD, of 6, 9, 8, 9; ANVIL 1 a CLOTH of 0, 11, 2, 0; by HAND 4 on DAY 2.
    some.asked("up", x -> x.up(0, 1), 6);
    some.asked("foreign", x -> x.foreign(0, 1), 3 + 5 + 6);
    some.asked("then", x -> x.then(0, 1, 90), 0);
    // 9 are gone behind DAYS 3, 6 .. 27.
    some.asked("clean", x -> x.clean(0), 26);
    some.asked("keep, none", x -> x.keep(0), -1);
    some.asked("keep", x -> x.keep(1), 2);
    some.asked("best", x -> x.best(0), 1);
    // each on the CLOTH: 10 more of each are hidden.
    some.asked("orders", x -> x.orders(1234, 5, -1), 0);
    some.asked("orders, the 3rd", x -> x.orders(1234, 5, 3), 1);
    some.asked("orders, not so many", x -> x.orders(1234, 5, 4), -5);
    some.asked("waits", x -> x.waits(1, 0, 0, 0), 0);
    some.asked("waits, none", x -> x.waits(0, 0, 0, 50), -1);
    Twins full = new Twins(CHECK, Twins::full);
    // ANVIL 3 is a STONE of 4, 3, 7, 0; by HAND 1.
    full.asked("then", x -> x.then(3, 2, 90), 7);
    full.asked("clean, none", x -> x.clean(3), -1);
    full.asked("keep, none", x -> x.keep(3), -1);
    full.asked("waits", x -> x.waits(3, 2, 8 + 6, 14), 0);
    full.asked("waits, none", x -> x.waits(3, 2, 13, 14), -1);
    Twins none = new Twins(CHECK, Twins::none);
    none.asked("best, none", x -> x.best(3), -1);
    none.asked("orders, none", x -> x.orders(4444, 5, -1), -1);
  }

  /** Promises 13 and 14: by THE HAND as it is now. */
  private static void upNow() {
    AnvilStreet x = made(0, 0, new int[] {PLAIN, 0, 9, 20, 1});
    int[][] up = {{0, 9, 20, 1}, {0, 0, 11, 0}};
    for (int hand = 0; hand <= 9; hand += 9) {
      x.hand(hand);
      for (int t = 0; t < 4; t++) {
        due("up " + t + " by " + hand, x.up(0, t), up[hand / 9][t]);
        due("foreign " + t + " by " + hand, x.foreign(0, t), (hand == 0 ? 30 : 11) - up[hand / 9][t]);
      }
    }
    x.undo();
    due("up, undone", x.up(0, 1), 9);
  }

  /** Promise 15: m 0 to 90. */
  private static void thenNowAndNinety() {
    for (int kind = 0; kind < 6; kind++) {
      AnvilStreet x = one(0, kind, 20);
      due("then 0 of kind " + kind, x.then(0, 1, 0), 20);
      due("then 90 of kind " + kind, x.then(0, 1, 90), kind == STONE ? 20 : 0);
      due("then 90 of nothing, kind " + kind, x.then(0, 0, 90), 0);
    }
    due("plain, then 19", one(0, PLAIN, 20).then(0, 1, 19), 1);
    due("plain, then 20", one(0, PLAIN, 20).then(0, 1, 20), 0);
    due("cold, then 38", one(0, COLD, 20).then(0, 1, 38), 1);
    due("cold, then 39", one(0, COLD, 20).then(0, 1, 39), 0);
    due("cold from day 1, then 39", one(1, COLD, 20).then(0, 1, 39), 1);
    due("cold from day 1, then 40", one(1, COLD, 20).then(0, 1, 40), 0);
    due("old from day 1, then 59", one(1, OLD, 20).then(0, 1, 59), 1);
    due("old from day 1, then 60", one(1, OLD, 20).then(0, 1, 60), 0);
    due("salt, then 3", one(0, SALT, 20).then(0, 1, 3), 1);
    due("salt, then 4", one(0, SALT, 20).then(0, 1, 4), 0);
  }

  /** "DAYS go beyond 999": 999 is odd and leaves 0 by 3, 1000 is even, 1002 leaves 0 by 3. */
  private static void thenBeyondTheLastDay() {
    due("cold, then 1", one(999, COLD, 20).then(0, 1, 1), 20);
    due("cold, then 2", one(999, COLD, 20).then(0, 1, 2), 19);
    due("cold, then 39", one(999, COLD, 20).then(0, 1, 39), 1);
    due("cold, then 40", one(999, COLD, 20).then(0, 1, 40), 0);
    due("old, then 1", one(999, OLD, 20).then(0, 1, 1), 19);
    due("old, then 3", one(999, OLD, 20).then(0, 1, 3), 19);
    due("old, then 4", one(999, OLD, 20).then(0, 1, 4), 18);
    due("old, then 57", one(999, OLD, 20).then(0, 1, 57), 1);
    due("old, then 58", one(999, OLD, 20).then(0, 1, 58), 0);
    due("cold from 998, then 2", one(998, COLD, 20).then(0, 1, 2), 19);
    due("cold from 998, then 3", one(998, COLD, 20).then(0, 1, 3), 18);
  }

  /** Promise 16: "in how many DAYS (0 .. 90)"; none. The most there is are 60, of OLD. */
  private static void cleanAtOnceAndLast() {
    for (int kind = 0; kind < 6; kind++) due("clean of nothing, kind " + kind, one(0, kind, 0).clean(0), 0);
    due("plain of 1", one(0, PLAIN, 1).clean(0), 1);
    due("plain of 20", one(0, PLAIN, 20).clean(0), 20);
    due("cold of 1, day 0", one(0, COLD, 1).clean(0), 1);
    due("cold of 1, day 1", one(1, COLD, 1).clean(0), 2);
    due("cold of 20, day 1", one(1, COLD, 20).clean(0), 40);
    due("old of 1, day 0", one(0, OLD, 1).clean(0), 1);
    due("old of 1, day 1", one(1, OLD, 1).clean(0), 3);
    due("old of 20, day 0", one(0, OLD, 20).clean(0), 58);
    due("old of 20, day 1", one(1, OLD, 20).clean(0), 60);
    due("old of 20, day 2", one(2, OLD, 20).clean(0), 59);
    due("salt of 1", one(0, SALT, 1).clean(0), 1);
    due("salt of 2", one(0, SALT, 2).clean(0), 1);
    due("salt of 3", one(0, SALT, 3).clean(0), 2);
    due("salt of 20", one(0, SALT, 20).clean(0), 4);
    due("stone of 1, none", one(0, STONE, 1).clean(0), -1);
    due("stone of 20, none", one(0, STONE, 20).clean(0), -1);
    due("cloth of 20", one(0, CLOTH, 20).clean(0), 39);
  }

  private static void cleanOfEachTemper() {
    for (int t = 0; t < 4; t++) {
      int[] a = {PLAIN, 2, 2, 2, 2};
      a[t + 1] = 5;
      due("clean, most of temper " + t, made(0, 0, a).clean(0), 5);
      int[] b = {STONE, 0, 0, 0, 0};
      b[t + 1] = 1;
      due("none, for temper " + t, made(0, 0, b).clean(0), -1);
    }
    AnvilStreet x = made(0, 0, new int[] {STONE, 1, 1, 1, 1}, new int[] {PLAIN, 0, 0, 0, 3});
    due("of another anvil", x.clean(1), 3);
    AnvilStreet y = made(0, 9, new int[] {PLAIN, 0, 0, 0, 3});
    due("whatever the hand is", y.clean(0), 3);
    int[] stone = {STONE, 1, 1, 1, 1};
    int[] nothing = {PLAIN, 0, 0, 0, 0};
    for (int a = 0; a < 4; a++) {
      AnvilStreet z = made(0, 0, a == 0 ? nothing : stone, a == 1 ? nothing : stone, a == 2 ? nothing : stone,
          a == 3 ? nothing : stone);
      for (int b = 0; b < 4; b++) {
        due("clean " + b + ", nothing on " + a, z.clean(b), a == b ? 0 : -1);
        due("keep " + b + ", nothing on " + a, z.keep(b), a == b ? 0 : -1);
      }
    }
  }

  private static void cleanBeyondTheLastDay() {
    due("cold of 1", one(999, COLD, 1).clean(0), 2);
    due("cold of 2", one(999, COLD, 2).clean(0), 4);
    due("old of 1", one(999, OLD, 1).clean(0), 1);
    due("old of 2", one(999, OLD, 2).clean(0), 4);
    due("cloth of 1", one(999, CLOTH, 1).clean(0), 2);
  }

  /** Promise 17: "the least HAND (0 .. 9) by which nothing comes UP from an ANVIL now; none". */
  private static void keepByNoneAndNine() {
    due("keep of nothing", one(0, PLAIN, 0).keep(0), 0);
    due("keep of 1", one(0, PLAIN, 1).keep(0), 1);
    due("keep of 8", one(0, PLAIN, 8).keep(0), 8);
    due("keep of 9", one(0, PLAIN, 9).keep(0), 9);
    due("keep of 10, none", one(0, PLAIN, 10).keep(0), -1);
    due("keep of 20, none", one(0, PLAIN, 20).keep(0), -1);
    for (int t = 0; t < 4; t++) {
      int[] a = {PLAIN, 3, 3, 3, 3};
      a[t + 1] = 4;
      due("keep, most of temper " + t, made(0, 9, a).keep(0), 4);
    }
    AnvilStreet x = one(0, PLAIN, 9);
    x.hand(5);
    due("whatever the hand is", x.keep(0), 9);
    due("the hand stays", x.count(2), 5);
    x.day(1);
    due("now, one day later", x.keep(0), 8);
  }

  private static void keepByTheKind() {
    due("cold of 9", one(0, COLD, 9).keep(0), 9);
    due("cold of 10, none", one(0, COLD, 10).keep(0), -1);
    due("old of nothing", one(0, OLD, 0).keep(0), 0);
    due("old of 1, none", one(0, OLD, 1).keep(0), -1);
    due("salt of 9", one(0, SALT, 9).keep(0), 9);
    due("stone of nothing", one(0, STONE, 0).keep(0), 0);
    due("stone of 1, none", one(0, STONE, 1).keep(0), -1);
    due("cloth of 9", one(0, CLOTH, 9).keep(0), 9);
    due("cloth of 10", one(0, CLOTH, 10).keep(0), 0);
    due("cloth of 20", one(0, CLOTH, 20).keep(0), 0);
    due("cloth of 10 and more of each", made(0, 0, new int[] {CLOTH, 10, 20, 11, 15}).keep(0), 0);
  }

  /** Promise 18: "none: no ANVILS". */
  private static void bestOfNone() {
    Twins none = new Twins(CHECK, Twins::none);
    for (int t = 0; t < 4; t++) {
      int temper = t;
      none.asked("best " + t + ", none", x -> x.best(temper), -1);
      due("best of one", made(0, 0, new int[] {STONE, 20, 20, 20, 20}).best(t), 0);
    }
    none.refused("best 4, BAD ahead of none", x -> x.best(4), -2, Twins.BAD);
    none.refused("best -1, BAD ahead of none", x -> x.best(-1), -2, Twins.BAD);
  }

  /** "of like ones the one from which most comes UP of t, then the first". */
  private static void bestOfLikeOnes() {
    int[] alike = {PLAIN, 3, 3, 3, 3};
    int[] less = {PLAIN, 0, 3, 3, 2};
    int[] more = {PLAIN, 4, 3, 3, 3};
    due("all alike: the first", made(0, 0, alike, alike, alike, alike).best(0), 0);
    due("least foreign: the last", made(0, 0, alike, more, alike, less).best(0), 3);
    due("least foreign: the first", made(0, 0, less, more, alike, alike).best(0), 0);
    due("of like ones most of t", made(0, 0, alike, alike, more, alike).best(0), 2);
    due("of like ones most of t: the last", made(0, 0, alike, alike, alike, more).best(0), 3);
    due("most of t twice: the first of them", made(0, 0, alike, more, more, alike).best(0), 1);
    // by HAND 4 nothing comes UP from any.
    due("nothing comes up: the first", made(0, 4, alike, more, alike, less).best(0), 0);
    // behind a CLOTH 10 and more are hidden.
    due("a cloth", made(0, 0, alike, new int[] {CLOTH, 0, 10, 20, 10}).best(0), 1);
  }

  private static AnvilStreet twoAnvils() {
    return made(0, 0, new int[] {PLAIN, 1, 2, 0, 3}, new int[] {PLAIN, 3, 0, 2, 1});
  }

  /** Promise 19: "up to 4 WORKS told by figures 1 to 4 (.. 0: none)". */
  private static void worksAsTold() {
    int[] told = {0, 1, 4, 11, 14, 41, 44, 111, 444, 141, 1111, 1114, 4111, 4444, 2323};
    for (int works : told) {
      AnvilStreet x = twoAnvils();
      CHECK.holds("orders " + works, x.orders(works, 1, -1) >= 0);
      due("orders " + works + ", none is refused", x.status(0), 0);
    }
    due("orders 1: temper 0 on the second", twoAnvils().orders(1, 1, -1), 3);
    due("orders 4: temper 3 on the first", twoAnvils().orders(4, 1, -1), 3);
    due("orders 4: temper 3 on the first", twoAnvils().orders(4, 1, 0), 0);
    due("the first figure first", twoAnvils().orders(14, 1, 0), 1);
    due("the first figure first", twoAnvils().orders(14, 1, 1), 0);
    due("the first figure first", twoAnvils().orders(41, 1, 0), 0);
    due("the first figure first", twoAnvils().orders(41, 1, 1), 1);
  }

  /** "BAD: -10": a figure 0 or from 5 on, anywhere, a fifth figure, and below 0. */
  private static void worksNotAsTold() {
    int[] bad = {-1, -1234, 5, 9, 10, 15, 40, 45, 50, 51, 100, 101, 110, 115, 151, 404, 440, 511, 1000, 1011, 1101, 1110,
        1115, 1151, 1511, 5111, 4445, 4440, 10000, 11111, 44444, 12340, 101111, 1111111111, Integer.MIN_VALUE, MOST};
    for (int works : bad) {
      new Twins(CHECK, Twins::some).refused("orders " + works, x -> x.orders(works, 1, -1), -10, Twins.BAD);
      new Twins(CHECK, Twins::none).refused("orders " + works, x -> x.orders(works, 1, 0), -10, Twins.BAD);
    }
  }

  /** "NONE: none (whatever i is, as told)". */
  private static void ordersWithoutAnvils() {
    Twins none = new Twins(CHECK, Twins::none);
    for (int works : new int[] {0, 1, 4444}) {
      for (int i : new int[] {-1, 0, 3, 4, MOST}) {
        none.asked("orders " + works + ", " + i, x -> x.orders(works, 5, i), -1);
      }
      none.refused("orders, i -2", x -> x.orders(works, 5, -2), -10, Twins.BAD);
      none.refused("orders, n 0", x -> x.orders(works, 0, -1), -10, Twins.BAD);
      none.refused("orders, n 6", x -> x.orders(works, 6, -1), -10, Twins.BAD);
    }
  }

  /** "-5: not so many". */
  private static void notSoManyOrders() {
    Twins some = new Twins(CHECK, Twins::some);
    int[] works = {0, 1, 12, 123, 1234};
    for (int size = 0; size <= 4; size++) {
      int told = works[size];
      for (int i = 0; i < size; i++) {
        int answer = twoAnvils().orders(told, 1, i);
        CHECK.holds("orders " + told + ", the " + i + ": an anvil", answer == 0 || answer == 1);
      }
      for (int i : new int[] {size, size + 1, 1000, MOST}) {
        some.asked("orders " + told + ", the " + i, x -> x.orders(told, 1, i), -5);
      }
      some.refused("orders " + told + ", i -2", x -> x.orders(told, 1, -2), -10, Twins.BAD);
    }
    due("none of them: nothing", twoAnvils().orders(0, 5, -1), 0);
  }

  /** "one behind the other today": what is beaten out comes up into the next, 20 kept, and nothing fades. */
  private static void ordersOneBehindTheOther() {
    AnvilStreet x = one(0, PLAIN, 0);
    due("none ahead", x.orders(1, 5, -1), 0);
    due("n 1", x.orders(12, 1, -1), 1);
    due("n 5", x.orders(12, 5, -1), 5);
    due("four", x.orders(1234, 5, -1), 0 + 5 + 10 + 15);
    due("four of one temper", x.orders(3333, 5, -1), 0);
    due("back again", x.orders(1212, 5, -1), 0 + 5 + 5 + 10);
    AnvilStreet y = one(0, PLAIN, 17);
    due("20 kept", y.orders(21, 5, -1), 0 + 20);
    due("20 kept, again and again", y.orders(2221, 5, -1), 20);
    due("salt, half of 5", one(0, SALT, 0).orders(12, 5, -1), 3);
    due("cloth, 10 are hidden", one(0, CLOTH, 0).orders(12, 5, -1), 0);
    due("cloth, 8 are not", one(0, CLOTH, 0).orders(12, 4, -1), 4);
    due("stone, twice 6", one(0, STONE, 0).orders(12, 5, -1), 12);
    due("all stays as it was", x.of(0, 1) + x.of(0, 2) + x.count(5), 0);
  }

  /** "in the first such way (rising)". */
  private static void ordersInTheFirstWay() {
    int[] nothing = {PLAIN, 0, 0, 0, 0};
    AnvilStreet x = made(0, 0, nothing, nothing, nothing, nothing);
    int[][] ways = {{1234, 0, 1, 2, 3}, {1111, 0, 0, 0, 0}, {1212, 0, 1, 0, 1}, {1112, 0, 0, 0, 1}, {4321, 0, 1, 2, 3}};
    for (int[] way : ways) {
      due("orders " + way[0], x.orders(way[0], 5, -1), 0);
      for (int i = 0; i < 4; i++) due("orders " + way[0] + ", the " + i, x.orders(way[0], 5, i), way[i + 1]);
    }
    // the first alone is best made on the first anvil, both together not.
    AnvilStreet y = made(0, 0, nothing, new int[] {PLAIN, 10, 0, 1, 0});
    due("orders 1", y.orders(1, 5, 0), 0);
    due("orders 12", y.orders(12, 5, -1), 1);
    due("orders 12, the 0th", y.orders(12, 5, 0), 1);
    due("orders 12, the 1st", y.orders(12, 5, 1), 0);
    // nothing is FOREIGN in any way: the first anvil twice.
    AnvilStreet z = made(0, 0, new int[] {STONE, 0, 0, 0, 0}, new int[] {STONE, 0, 0, 0, 0});
    due("two alike, the 0th", z.orders(11, 1, 0), 0);
    due("two alike, the 1st", z.orders(11, 1, 1), 0);
    due("the last of four", made(0, 0, twoOf(), twoOf(), twoOf(), nothing).orders(1, 1, 0), 3);
  }

  private static int[] twoOf() {
    return new int[] {PLAIN, 2, 2, 2, 2};
  }

  private static void ordersByTheHand() {
    AnvilStreet x = made(0, 5, new int[] {PLAIN, 0, 0, 0, 0});
    due("held down", x.orders(12, 5, -1), 0);
    x.hand(4);
    due("one comes up", x.orders(12, 5, -1), 1);
    x.hand(9);
    due("by hand 9", x.orders(1112, 5, -1), 15 - 9);
  }

  /** Promise 20: "the least DAYS (0 .. 30) .. x .. or less, and w .. of t or more". */
  private static void waitsNotAtAll() {
    AnvilStreet x = made(0, 0, new int[] {PLAIN, 5, 4, 3, 2});
    due("just so much", x.waits(0, 0, 9, 5), 0);
    due("more may be, less need", x.waits(0, 0, 10, 4), 0);
    due("one less may be", x.waits(0, 0, 8, 4), 1);
    due("one less may be, none is left of it", x.waits(0, 0, 8, 5), -1);
    due("one more must be", x.waits(0, 0, 9, 6), -1);
    due("of nothing", one(0, PLAIN, 0).waits(0, 0, 0, 0), 0);
  }

  private static void waitsThirtyAtMost() {
    // COLD fades on even DAYS: behind 29 DAYS 15 are gone, on from DAY 1 behind 30.
    due("waits 29", one(0, COLD, 15).waits(0, 0, 0, 0), 29);
    due("not 31", one(0, COLD, 16).waits(0, 0, 0, 0), -1);
    due("waits 30", one(1, COLD, 15).waits(0, 0, 0, 0), 30);
    due("not 32", one(1, COLD, 16).waits(0, 0, 0, 0), -1);
    // OLD fades behind 3, not behind 1 and 2.
    due("waits 3, old", one(1, OLD, 1).waits(0, 0, 0, 0), 3);
    due("waits 2, old", one(2, OLD, 1).waits(0, 0, 0, 0), 2);
    due("waits 1, old", one(3, OLD, 1).waits(0, 0, 0, 0), 1);
    due("never", one(0, STONE, 1).waits(0, 0, 3, 0), -1);
    due("at once", one(0, STONE, 1).waits(0, 0, 4, 0), 0);
    due("waits 20", one(0, PLAIN, 20).waits(0, 0, 0, 0), 20);
  }

  private static void waitsForBoth() {
    Supplier<AnvilStreet> cloth = () -> made(0, 0, new int[] {CLOTH, 12, 3, 0, 0});
    // 12, 11, 11, 10, 10, 9: as soon as 9 are left 5 come UP, and of temper 1 none by then.
    due("what comes up later", cloth.get().waits(0, 0, 80, 5), 5);
    due("not any more", cloth.get().waits(0, 0, 80, 6), -1);
    due("nothing is needed", cloth.get().waits(0, 0, 80, 0), 0);
    due("less and more together", cloth.get().waits(0, 0, 0, 1), 5);
    AnvilStreet x = made(0, 0, new int[] {PLAIN, 3, 9, 0, 0});
    due("until then it is gone", x.waits(0, 0, 6, 1), -1);
    due("just not gone", x.waits(0, 0, 7, 1), 2);
  }

  /** x 80 and w 50 are as told. */
  private static void waitsByTheMost() {
    due("80 are 80 or less", made(0, 0, new int[] {STONE, 0, 19, 19, 0}).waits(0, 0, 80, 0), 0);
    due("82 are not", made(0, 0, new int[] {STONE, 0, 20, 19, 0}).waits(0, 0, 80, 0), -1);
    due("42 are 42 or more", one(0, STONE, 20).waits(0, 1, 0, 42), 0);
    due("42 are not 43", one(0, STONE, 20).waits(0, 1, 0, 43), -1);
    due("42 are not 50", one(0, STONE, 20).waits(0, 1, 80, 50), -1);
  }

  private static void waitsBeyondTheLastDay() {
    due("cold of 1", one(999, COLD, 1).waits(0, 0, 0, 0), 2);
    due("cold of 15", one(999, COLD, 15).waits(0, 0, 0, 0), 30);
    due("cold of 16", one(999, COLD, 16).waits(0, 0, 0, 0), -1);
    due("old of 2", made(999, 1, new int[] {OLD, 0, 2, 0, 0}).waits(0, 0, 0, 0), 4);
  }
}
