import java.util.ArrayList;
import java.util.List;
import java.util.function.Supplier;
import java.util.function.ToLongFunction;

/**
 * Two streets made alike, of which one is called once more: what that call answers, what it counts as, and that it
 * changes nothing else. All that can be asked of a street is asked of both, by the end of their use.
 */
final class Twins {
  static final int BAD = 0, NO = 1, FULL = 2, NONE_OF_THEM = 3;

  private final Check check;
  private final Supplier<AnvilStreet> made;

  Twins(Check check, Supplier<AnvilStreet> made) {
    this.check = check;
    this.made = made;
  }

  /** The call answers so, is counted once, by that reason, and changes nothing else. */
  void refused(String call, ToLongFunction<AnvilStreet> ask, long answer, int reason) {
    AnvilStreet called = made.get();
    AnvilStreet other = made.get();
    long got = ask.applyAsLong(called);
    check.due(call, got, answer);
    String[] names = {"BAD", "NO", "FULL"};
    for (int what = 0; what < 3; what++) {
      long want = other.status(what) + (what == reason ? 1 : 0);
      check.due(call + ", how many are counted as " + names[what], called.status(what), want);
    }
    check.holds(call + " changes nothing else", all(called).equals(all(other)));
  }

  /** The call answers so, is counted by no reason, and changes nothing. */
  void asked(String call, ToLongFunction<AnvilStreet> ask, long answer) {
    refused(call, ask, answer, NONE_OF_THEM);
  }

  /** All that a street tells but STATUS: as it is, undone step by step, from each IMAGE, and by THE TEXT. */
  private static List<Long> all(AnvilStreet x) {
    List<Long> told = new ArrayList<>();
    stepByStep(x, told);
    for (int i = 0; i < 2; i++) {
      told.add((long) x.from(i));
      stepByStep(x, told);
    }
    told.add((long) x.read());
    stepByStep(x, told);
    told.add((long) x.clear());
    return told;
  }

  private static void stepByStep(AnvilStreet x, List<Long> told) {
    told.add(x.digest());
    for (int i = 0; i < 9; i++) {
      told.add((long) x.undo());
      told.add(x.digest());
    }
  }

  static void type(AnvilStreet x, String text) {
    for (int i = 0; i < text.length(); i++) x.type(text.charAt(i));
  }

  /** Goes by to that DAY. */
  static void dayIs(AnvilStreet x, int day) {
    while (x.count(1) < day) x.day(Math.min(60, day - x.count(1)));
  }

  /** Nothing of anything. */
  static AnvilStreet none() {
    return new AnvilStreet();
  }

  /** Something of everything, and nothing full: ANVILS 0 and 1, both IMAGES. */
  static AnvilStreet some() {
    AnvilStreet x = new AnvilStreet();
    x.street(3);
    x.anvil(2, 7, 8, 9, 10);
    x.image(0);
    x.anvil(5, 1, 12, 3, 20);
    x.day(2);
    x.note(0, 5, 1, 5);
    x.came(1, 2, 3, 4);
    x.work(0, 1, 2);
    x.image(1);
    x.hand(4);
    x.note(1, 12, 3, 12);
    x.salt(1, 3);
    x.frost(0, 5);
    type(x, "street 5;anvil 3 1 2 3 4;day;");
    return x;
  }

  /** As much as there may be: four ANVILS, six NOTES, six CAME, eight to be undone, 150 bytes, both IMAGES. */
  static AnvilStreet full() {
    AnvilStreet x = new AnvilStreet();
    x.street(1);
    x.anvil(0, 1, 2, 3, 4);
    x.anvil(1, 20, 0, 20, 0);
    x.anvil(2, 9, 9, 9, 9);
    x.image(1);
    x.anvil(4, 0, 0, 7, 0);
    for (int i = 1; i <= 6; i++) x.note(i % 4, i, i, i);
    for (int i = 1; i <= 6; i++) x.came(i % 4, i % 4, i, i);
    dayIs(x, 999);
    for (int i = 1; i <= 9; i++) x.work(i % 4, i % 3, i % 5 + 1);
    x.frost(3, 1);
    x.image(0);
    type(x, "street 01;" + "day;".repeat(35));
    return x;
  }
}
