import java.util.Arrays;
import java.util.List;
import java.util.function.Supplier;

/**
 * Of each number of each call the last that is as told and the first that is not, on either side: "BAD -2 a number is
 * not as told", "changing nothing but STATUS", "the first of" BAD, NO and FULL.
 */
public final class EdgesOfNumbersTest {
  private static final Check CHECK = new Check();
  // The number of an ANVIL: 0 to the last that is there.
  private static final int[] ANVIL = {0, -1};
  private static final int[] TEMPER = {0, 3};
  private static final int[] MEMORY = {0, 20};
  private static final int[] HAND = {0, 9};
  private static final int[] BLOWS = {1, 5};
  private static final int[] UP = {0, 50};
  private static final int[] ONE = {0, 1};
  // NONE, or any from 0 on.
  private static final int[] PLACE = {-1, Integer.MAX_VALUE};

  interface Call {
    long on(AnvilStreet x, int[] n);
  }

  /** A call by its name, what it answers for BAD, numbers that are as told, and from where to where they are. */
  record Told(String name, Call call, long bad, int[] base, int[]... ranges) { }

  private static final Told[] ALL = {
    new Told("street", (x, n) -> x.street(n[0]), -2, new int[] {4}, HAND),
    new Told("anvil", (x, n) -> x.anvil(n[0], n[1], n[2], n[3], n[4]), -2, new int[] {2, 3, 4, 5, 6},
        new int[] {0, 5}, MEMORY, MEMORY, MEMORY, MEMORY),
    new Told("type", (x, n) -> x.type(n[0]), -2, new int[] {59}, new int[] {0, 127}),
    new Told("work", (x, n) -> x.work(n[0], n[1], n[2]), -2, new int[] {0, 1, 2}, ANVIL, TEMPER, BLOWS),
    new Told("day", (x, n) -> x.day(n[0]), -2, new int[] {2}, new int[] {1, 60}),
    new Told("salt", (x, n) -> x.salt(n[0], n[1]), -2, new int[] {0, 1}, ANVIL, TEMPER),
    new Told("hand", (x, n) -> x.hand(n[0]), -2, new int[] {4}, HAND),
    new Told("of", (x, n) -> x.of(n[0], n[1]), -2, new int[] {0, 1}, ANVIL, new int[] {0, 4}),
    new Told("up", (x, n) -> x.up(n[0], n[1]), -2, new int[] {0, 1}, ANVIL, TEMPER),
    new Told("foreign", (x, n) -> x.foreign(n[0], n[1]), -2, new int[] {0, 1}, ANVIL, TEMPER),
    new Told("then", (x, n) -> x.then(n[0], n[1], n[2]), -2, new int[] {0, 1, 2}, ANVIL, TEMPER, new int[] {0, 90}),
    new Told("clean", (x, n) -> x.clean(n[0]), -2, new int[] {0}, ANVIL),
    new Told("keep", (x, n) -> x.keep(n[0]), -2, new int[] {0}, ANVIL),
    new Told("best", (x, n) -> x.best(n[0]), -2, new int[] {1}, TEMPER),
    // What WORKS may be told is in EdgesOfWhatComesUpTest.
    new Told("orders 12", (x, n) -> x.orders(12, n[0], n[1]), -10, new int[] {2, 0}, BLOWS, PLACE),
    new Told("waits", (x, n) -> x.waits(n[0], n[1], n[2], n[3]), -2, new int[] {0, 1, 2, 3}, ANVIL, TEMPER,
        new int[] {0, 80}, UP),
    new Told("note", (x, n) -> x.note(n[0], n[1], n[2], n[3]), -2, new int[] {0, 1, 2, 3}, ANVIL, MEMORY,
        new int[] {0, 99}, MEMORY),
    new Told("came", (x, n) -> x.came(n[0], n[1], n[2], n[3]), -2, new int[] {0, 1, 2, 3}, ANVIL, TEMPER, HAND, UP),
    new Told("forget", (x, n) -> x.forget(n[0]), -2, new int[] {0}, ONE),
    new Told("is", (x, n) -> x.is(n[0]), -2, new int[] {0}, ANVIL),
    new Told("look", (x, n) -> x.look(n[0]), -2, new int[] {0}, ANVIL),
    new Told("memory", (x, n) -> x.memory(n[0], n[1]), -2, new int[] {0, 1}, ANVIL, TEMPER),
    new Told("whose", (x, n) -> x.whose(n[0], n[1], n[2], n[3]), -2, new int[] {1, 2, 3, 4}, UP, UP, UP, UP),
    new Told("two", (x, n) -> x.two(n[0], n[1], n[2]), -10, new int[] {1, 2, 0}, TEMPER, TEMPER, PLACE),
    new Told("frost", (x, n) -> x.frost(n[0], n[1]), -2, new int[] {0, 3}, ANVIL, new int[] {0, 10}),
    new Told("streets", (x, n) -> x.streets(n[0], n[1]), -2, new int[] {5, 6}, new int[] {0, 999999}, new int[] {0, 60}),
    new Told("part", (x, n) -> x.part(n[0]), -2, new int[] {0}, ONE),
    new Told("image", (x, n) -> x.image(n[0]), -2, new int[] {0}, ONE),
    new Told("from", (x, n) -> x.from(n[0]), -2, new int[] {0}, ONE),
    new Told("status", (x, n) -> x.status(n[0]), -1, new int[] {0}, new int[] {0, 2}),
    new Told("count", (x, n) -> x.count(n[0]), -2, new int[] {0}, new int[] {0, 6})};

  public static void main(String[] args) {
    asTold("some: ", Twins::some);
    asTold("full: ", Twins::full);
    notAsTold("none: ", Twins::none);
    notAsTold("some: ", Twins::some);
    notAsTold("full: ", Twins::full);
    noAnvilIsThere();
    manyNotAsToldCountOnce();
    CHECK.due("calls that tell numbers", ALL.length, 31);
    CHECK.end();
  }

  private static int high(int[] range, AnvilStreet x) {
    return range == ANVIL ? x.count(0) - 1 : range[1];
  }

  private static int[] with(int[] base, int at, int value) {
    int[] made = base.clone();
    made[at] = value;
    return made;
  }

  private static String name(String state, Told told, int[] n) {
    return state + told.name() + " " + Arrays.toString(n);
  }

  /** The last on either side are as told: no call of them is refused as BAD. */
  private static void asTold(String state, Supplier<AnvilStreet> made) {
    for (Told told : ALL) {
      for (int at = 0; at < told.ranges().length; at++) {
        int[] range = told.ranges()[at];
        for (int side = 0; side < 2; side++) {
          AnvilStreet x = made.get();
          int before = x.status(0);
          int[] n = with(told.base(), at, side == 0 ? range[0] : high(range, x));
          long answer = told.call().on(x, n);
          boolean isBad = answer == told.bad() && !told.name().equals("status");
          CHECK.holds(name(state, told, n) + " is not BAD", !isBad);
          CHECK.due(name(state, told, n) + " is not counted as BAD", x.status(0), before);
        }
      }
    }
  }

  /** The first on either side that are not as told, and those far away, are BAD, ahead of NO and FULL. */
  private static void notAsTold(String state, Supplier<AnvilStreet> made) {
    Twins twins = new Twins(CHECK, made);
    for (Told told : ALL) {
      for (int at = 0; at < told.ranges().length; at++) {
        int[] range = told.ranges()[at];
        int high = high(range, made.get());
        long[] values = {range[0] - 1L, high + 1L, Integer.MIN_VALUE, Integer.MAX_VALUE};
        for (long value : values) {
          boolean isTold = value >= range[0] && value <= high;
          if (!isTold && value == (int) value) {
            int[] n = with(told.base(), at, (int) value);
            twins.refused(name(state, told, n), x -> told.call().on(x, n), told.bad(), Twins.BAD);
          }
        }
      }
    }
  }

  /** No ANVILS: not even ANVIL 0 is as told. */
  private static void noAnvilIsThere() {
    Twins twins = new Twins(CHECK, Twins::none);
    int asked = 0;
    for (Told told : ALL) {
      if (told.ranges()[0] == ANVIL) {
        twins.refused(name("none: ", told, told.base()), x -> told.call().on(x, told.base()), -2, Twins.BAD);
        asked++;
      }
    }
    CHECK.due("calls that tell an ANVIL first", asked, 15);
  }

  /** A call is refused once, however many of its numbers are not as told. */
  private static void manyNotAsToldCountOnce() {
    for (Supplier<AnvilStreet> made : List.<Supplier<AnvilStreet>>of(Twins::none, Twins::some, Twins::full)) {
      Twins twins = new Twins(CHECK, made);
      for (Told told : ALL) {
        int[] n = new int[told.base().length];
        Arrays.fill(n, -7);
        twins.refused(name("all of them: ", told, n), x -> told.call().on(x, n), told.bad(), Twins.BAD);
      }
    }
  }
}
