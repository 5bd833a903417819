/** Promises 21 to 30: what it is. */
public final class WhatItIsPromisesTest {
  private static final Check CHECK = new Check();
  private static final int ALL = (1 << 21) - 1;

  public static void main(String[] args) {
    note();
    came();
    forget();
    is();
    look();
    memory();
    whose();
    two();
    twoBelowNothing();
    frost();
    streets();
    streetsGoOnBeyondTheLastDay();
    CHECK.end();
  }

  private static void due(String call, long got, long want) {
    CHECK.due(call, got, want);
  }

  private static void note() {
    AnvilStreet x = new AnvilStreet();
    due("note, no anvil", x.note(0, 0, 0, 0), -2);
    x.anvil(0, 0, 0, 0, 0);
    int[][] bad = {{-1, 0, 0, 0}, {1, 0, 0, 0}, {0, -1, 0, 0}, {0, 21, 0, 0}, {0, 0, -1, 0}, {0, 0, 100, 0}, {0, 0, 0, -1}, {0, 0, 0, 21}};
    for (int[] b : bad) due("note, bad", x.note(b[0], b[1], b[2], b[3]), -2);
    due("notes", x.count(3), 0);
    for (int i = 1; i <= 6; i++) due("note", x.note(0, 20, 99, 20), i);
    due("note, full", x.note(0, 20, 99, 20), -4);
    due("note, bad ahead of full", x.note(0, 21, 99, 20), -2);
    due("notes", x.count(3), 6);
    due("came", x.count(4), 0);
  }

  private static void came() {
    AnvilStreet x = new AnvilStreet();
    due("came, no anvil", x.came(0, 0, 0, 0), -2);
    x.anvil(0, 0, 0, 0, 0);
    int[][] bad = {{-1, 0, 0, 0}, {1, 0, 0, 0}, {0, -1, 0, 0}, {0, 4, 0, 0}, {0, 0, -1, 0}, {0, 0, 10, 0}, {0, 0, 0, -1}, {0, 0, 0, 51}};
    for (int[] b : bad) due("came, bad", x.came(b[0], b[1], b[2], b[3]), -2);
    due("came", x.count(4), 0);
    for (int i = 1; i <= 6; i++) due("came", x.came(0, 3, 9, 50), i);
    due("came, full", x.came(0, 3, 9, 50), -4);
    due("came, bad ahead of full", x.came(0, 4, 9, 50), -2);
    due("came", x.count(4), 6);
    due("notes", x.count(3), 0);
  }

  private static void forget() {
    AnvilStreet x = new AnvilStreet();
    due("forget -1", x.forget(-1), -2);
    due("forget 2", x.forget(2), -2);
    due("forget 0", x.forget(0), 0);
    x.anvil(0, 0, 0, 0, 0);
    x.note(0, 1, 0, 5);
    x.came(0, 1, 0, 5);
    x.came(0, 1, 0, 6);
    due("is", x.is(0), 0);
    due("forget 0", x.forget(0), 1);
    due("is", x.is(0), 63);
    due("came", x.count(4), 2);
    due("memory", x.memory(0, 1), 0);
    due("forget 1", x.forget(1), 2);
    due("memory", x.memory(0, 1), ALL);
    due("forget 1", x.forget(1), 0);
    due("note", x.note(0, 1, 0, 5), 1);
  }

  private static void is() {
    AnvilStreet x = new AnvilStreet();
    due("is, no anvil", x.is(0), -2);
    x.anvil(0, 0, 0, 0, 0);
    x.anvil(0, 0, 0, 0, 0);
    due("is 2", x.is(2), -2);
    due("is -1", x.is(-1), -2);
    due("is", x.is(0), 63);
    x.note(0, 9, 2, 8);
    // PLAIN, COLD, CLOTH fade behind 2.
    due("is", x.is(0), 1 + 2 + 32);
    due("is another", x.is(1), 63);
    x.note(0, 9, 3, 9);
    due("is", x.is(0), 2 + 32);
    x.note(1, 9, 3, 8);
    due("is", x.is(0), 2 + 32);
    due("is another", x.is(1), 1 + 4);
    x.note(1, 9, 4, 9);
    due("is another", x.is(1), 4);
    x.forget(0);
    x.note(0, 9, 99, 4);
    due("is salt", x.is(0), 8);
    x.note(1, 0, 0, 0);
    due("is, of nothing", x.is(1), 63);
  }

  private static void look() {
    AnvilStreet x = new AnvilStreet();
    due("look, no anvil", x.look(0), -2);
    x.anvil(0, 0, 0, 0, 0);
    x.anvil(0, 0, 0, 0, 0);
    due("look 2", x.look(2), -2);
    due("look -1", x.look(-1), -2);
    due("look", x.look(0), 22);
    x.note(0, 9, 2, 8);
    // PLAIN, COLD, CLOTH: 1 behind DAY 1 is 0, 1, 1; none is told apart better.
    due("look, plain or cold", x.look(0), 11);
    x.note(0, 9, 1, 8);
    due("look, one", x.look(0), 10);
    x.note(0, 9, 1, 7);
    due("look, none", x.look(0), -1);
    // COLD, OLD, STONE, CLOTH leave 9 behind DAY 1.
    x.note(1, 9, 1, 9);
    due("is", x.is(1), 2 + 4 + 16 + 32);
    // behind DAY 0 three are alike, behind 1 all, behind 2 two and two.
    due("look", x.look(1), 12);
    x.note(1, 9, 2, 9);
    // OLD and STONE
    due("look", x.look(1), 10);
  }

  private static void memory() {
    AnvilStreet x = new AnvilStreet();
    due("memory, no anvil", x.memory(0, 0), -2);
    x.anvil(1, 0, 0, 0, 0);
    x.anvil(5, 0, 0, 0, 0);
    x.anvil(4, 0, 0, 0, 0);
    due("memory t -1", x.memory(0, -1), -2);
    due("memory t 4", x.memory(0, 4), -2);
    due("memory a -1", x.memory(-1, 0), -2);
    due("memory a 3", x.memory(3, 0), -2);
    due("memory", x.memory(0, 0), ALL);
    x.came(0, 0, 3, 2);
    // COLD: 3 or 4 more than the hand
    due("memory", x.memory(0, 0), 1 << 6 | 1 << 7);
    due("memory, another temper", x.memory(0, 1), ALL);
    due("memory, another anvil", x.memory(1, 0), ALL);
    x.came(0, 0, 4, 1);
    due("memory", x.memory(0, 0), 1 << 6);
    x.came(0, 0, 6, 1);
    due("memory", x.memory(0, 0), 0);
    x.came(1, 3, 2, 0);
    // CLOTH: 0 to 2, or 10 and more
    due("memory", x.memory(1, 3), 7 | ALL & ~1023);
    x.came(2, 2, 0, 42);
    due("memory, stone", x.memory(2, 2), 1 << 20);
    x.came(2, 1, 5, 3);
    due("memory, none", x.memory(2, 1), 0);
  }

  private static void whose() {
    AnvilStreet x = new AnvilStreet();
    due("whose, no anvils", x.whose(0, 0, 0, 0), 0);
    for (int i = 0; i < 4; i++) {
      int[] v = new int[4];
      v[i] = -1;
      due("whose -1", x.whose(v[0], v[1], v[2], v[3]), -2);
      v[i] = 51;
      due("whose 51", x.whose(v[0], v[1], v[2], v[3]), -2);
    }
    due("whose 50", x.whose(50, 50, 50, 50), 0);
    x.street(1);
    x.anvil(0, 2, 3, 4, 5);
    x.anvil(1, 3, 4, 7, 9);
    x.anvil(2, 1, 2, 3, 4);
    x.anvil(0, 0, 0, 1, 1);
    // 1 2 3 4; 1 2 3 4; 1 2 3 4; 0 0 0 0
    due("whose", x.whose(1, 2, 3, 4), 7);
    due("whose", x.whose(0, 0, 0, 0), 8);
    due("whose", x.whose(1, 2, 3, 5), 0);
    due("whose", x.whose(1, 2, 0, 4), 0);
    due("whose", x.whose(1, 0, 3, 4), 0);
    due("whose", x.whose(0, 2, 3, 4), 0);
    x.hand(0);
    due("whose", x.whose(2, 3, 4, 5), 5);
    due("whose", x.whose(2, 2, 4, 5), 2);
  }

  private static void two() {
    AnvilStreet x = new AnvilStreet();
    due("two, no anvils", x.two(0, 1, -1), 0);
    due("two, no anvils", x.two(0, 1, 0), -5);
    int[][] bad = {{-1, 0, 0}, {4, 0, 0}, {0, -1, 0}, {0, 4, 0}, {0, 0, -2}, {0, 0, Integer.MIN_VALUE}};
    for (int[] b : bad) due("two, bad", x.two(b[0], b[1], b[2]), -10);
    due("two, counted", x.status(0), bad.length);
    x.anvil(0, 0, 0, 0, 0);
    due("two, one anvil", x.two(0, 1, -1), 1);
    due("two, one anvil", x.two(0, 1, 0), 0);
    due("two, not so many", x.two(0, 1, 1), -5);
    due("two, far", x.two(0, 1, Integer.MAX_VALUE), -5);
    x.anvil(0, 4, 0, 0, 0);
    // s 0: 20, 20; t 1: 20, 16
    due("two 0 1", x.two(0, 1, -1), 2);
    due("two 0 1", x.two(0, 1, 0), 1);
    due("two 0 1", x.two(0, 1, 1), 4);
    due("two 0 1", x.two(0, 1, 2), -5);
    due("none are refused", x.status(0), bad.length);
    AnvilStreet y = new AnvilStreet();
    y.anvil(0, 0, 0, 0, 0);
    y.anvil(0, 0, 0, 0, 11);
    // 20 and 9: half of 20 is 10, and more than 9: both at the first.
    due("two 0 1", y.two(0, 1, -1), 1);
    due("two 0 1", y.two(0, 1, 0), 0);
    // for temper 3 both anvils are alike.
    due("two 0 3", y.two(0, 3, -1), 1);
    due("two 0 3", y.two(0, 3, 0), 1);
    due("two 3 0", y.two(3, 0, 0), 4);
    AnvilStreet z = new AnvilStreet();
    z.anvil(0, 0, 0, 0, 0);
    z.anvil(0, 0, 0, 0, 10);
    // 20 and 10: half of 20 is no less than 10: three pairs.
    due("two 0 1", z.two(0, 1, -1), 3);
    int[] pairs = {0, 1, 4};
    for (int k = 0; k < 3; k++) due("two 0 1", z.two(0, 1, k), pairs[k]);
  }

  private static void twoBelowNothing() {
    AnvilStreet x = new AnvilStreet();
    x.anvil(0, 0, 13, 0, 10);
    x.anvil(0, 0, 13, 0, 8);
    // 20 - 23 = -3, half toward 0: -1, as much as 20 - 21 = -1 alone; half of that toward 0: 0.
    due("two 0 0", x.two(0, 0, -1), 2);
    due("two 0 0", x.two(0, 0, 0), 0);
    due("two 0 0", x.two(0, 0, 1), 5);
    AnvilStreet y = new AnvilStreet();
    y.anvil(0, 0, 13, 0, 15);
    y.anvil(0, 0, 13, 0, 8);
    // -8, half: -4; -1 alone is more: only both at the second rest.
    due("two 0 0", y.two(0, 0, -1), 1);
    due("two 0 0", y.two(0, 0, 0), 5);
  }

  private static void frost() {
    AnvilStreet x = new AnvilStreet();
    due("frost, no anvil", x.frost(0, 5), -2);
    x.anvil(0, 7, 0, 0, 8);
    x.anvil(0, 20, 20, 20, 20);
    x.anvil(0, 0, 0, 0, 0);
    int[][] all = {{0, 0, 15, 1}, {0, 10, 0, 1}, {0, 5, 15, 2}, {0, 4, 9, 1}, {0, 3, 21, 2}, {1, 9, 8, 1}, {1, 0, 80, 1}, {2, 3, 0, 1}};
    for (int[] a : all) {
      due("frost", x.frost(a[0], a[1]), 1);
      due("above", x.part(0), a[2]);
      due("below", x.part(1), a[3]);
    }
    due("memory stays", x.of(0, 1), 7);
    x.frost(0, 3);
    due("frost -1", x.frost(0, -1), -2);
    due("frost 11", x.frost(0, 11), -2);
    due("frost a -1", x.frost(-1, 1), -2);
    due("frost a 3", x.frost(3, 1), -2);
    due("above", x.part(0), 21);
    due("below", x.part(1), 2);
  }

  private static void streets() {
    AnvilStreet x = new AnvilStreet();
    due("streets -1", x.streets(-1, 0), -2);
    due("streets 1000000", x.streets(1000000, 0), -2);
    due("streets n -1", x.streets(0, -1), -2);
    due("streets n 61", x.streets(0, 61), -2);
    due("streets, no anvils", x.streets(999999, 60), 0);
    x.anvil(4, 1, 1, 1, 1);
    x.anvil(4, 2, 2, 2, 2);
    x.anvil(4, 3, 3, 3, 3);
    x.anvil(4, 4, 4, 4, 4);
    long before = x.digest();
    due("streets 0 0", x.streets(0, 0), 0);
    // X is 12345: ANVIL 0, TEMPER 0, 1 of BLOWS; 3 times 4 is FOREIGN.
    due("streets 0 1", x.streets(0, 1), 12);
    // X is 1406932606, by 65536 21468: ANVIL 0; by 1048576 1341: TEMPER 1; by 16777216 83: BLOWS 4;
    // MEMORY of TEMPER 0 is 2 by now: 6 and 4 and 4.
    due("streets 0 2", x.streets(0, 2), 26);
    // X is 654583775: 9988, ANVIL 0; 624, TEMPER 0; 39, BLOWS 5; TEMPER 1 is 5: 12 and 4 and 4.
    due("streets 0 3", x.streets(0, 3), 46);
    // X is 1449466924: 22117, ANVIL 1; 1382, TEMPER 2; 86, BLOWS 2: 3 times 6.
    due("streets 0 4", x.streets(0, 4), 64);
    due("nothing is changed", x.digest(), before);
    AnvilStreet y = new AnvilStreet();
    y.anvil(0, 0, 0, 0, 3);
    // 3; then a DAY: 1 less (0 and 1 of BLOWS, 3): 2; then (0, 3, 0, 1): 3 and 1.
    due("streets 0 1, fading", y.streets(0, 1), 3);
    due("streets 0 2, fading", y.streets(0, 2), 3 + 2);
    due("streets 0 3, fading", y.streets(0, 3), 3 + 2 + 3 + 1);
    // the fourth is for an ANVIL that is not there.
    due("streets 0 4, fading", y.streets(0, 4), 9);
    AnvilStreet z = new AnvilStreet();
    z.day(1);
    z.anvil(2, 0, 0, 0, 8);
    // OLD fades behind 3, not behind 1 and 2: 9 each time, and 5 of TEMPER 1 behind the second.
    due("streets from day 1, old", z.streets(0, 3), 9 + (9 + 2) + (9 + 5));
    y.hand(2);
    due("streets by a hand", y.streets(0, 3), 1 + 0 + 1 + 0);
  }

  private static void streetsGoOnBeyondTheLastDay() {
    AnvilStreet x = new AnvilStreet();
    for (int i = 0; i < 17; i++) x.day(60);
    due("the day", x.count(1), 999);
    x.anvil(1, 0, 0, 0, 8);
    // COLD: 8 behind 999, 7 behind 1000: half of 8, of 8, of 7 and of 3 (4 of TEMPER 1, one less).
    due("streets", x.streets(0, 1), 4);
    due("streets", x.streets(0, 2), 4 + 5);
    due("streets", x.streets(0, 3), 4 + 5 + 4 + 2);
  }
}
