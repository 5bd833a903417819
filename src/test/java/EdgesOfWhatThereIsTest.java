import java.util.List;
import java.util.function.Supplier;

/** The boundaries of what there is: promises 31 to 36, IMAGES, STATUS. */
public final class EdgesOfWhatThereIsTest {
  private static final Check CHECK = new Check();

  public static void main(String[] args) {
    partOfBoth();
    noImageIsKept();
    imagesAreApart();
    imageOfNoneAndOfAll();
    imageKeepsWhatMayBeUndone();
    imageKeepsNotTheRest();
    imageStaysAsItWas();
    statusOfEach();
    statusOfAnother();
    statusCountsNoAnswers();
    statusIsNeverLess();
    countOfNoneAndOfAll();
    digestOfNone();
    digestOfAll();
    digestHasItsOrder();
    CHECK.end();
  }

  private static void due(String call, long got, long want) {
    CHECK.due(call, got, want);
  }

  /** Promise 31: "above (0), below (1)". */
  private static void partOfBoth() {
    new Twins(CHECK, Twins::none).asked("part 0", x -> x.part(0), 0);
    new Twins(CHECK, Twins::none).asked("part 1", x -> x.part(1), 1);
    Twins full = new Twins(CHECK, () -> {
      AnvilStreet x = new AnvilStreet();
      x.anvil(0, 20, 20, 20, 19);
      x.frost(0, 7);
      return x;
    });
    full.asked("part 0", x -> x.part(0), 237);
    full.asked("part 1", x -> x.part(1), 10);
    full.refused("part 2", x -> x.part(2), -2, Twins.BAD);
    full.refused("part -1", x -> x.part(-1), -2, Twins.BAD);
  }

  /** Promise 33: "NO: none was kept"; BAD ahead of it. */
  private static void noImageIsKept() {
    Twins none = new Twins(CHECK, Twins::none);
    none.refused("from 0", x -> x.from(0), -3, Twins.NO);
    none.refused("from 1", x -> x.from(1), -3, Twins.NO);
    none.refused("from 2", x -> x.from(2), -2, Twins.BAD);
    none.refused("from -1", x -> x.from(-1), -2, Twins.BAD);
    for (int i = 0; i < 2; i++) {
      int kept = i;
      Twins one = new Twins(CHECK, () -> {
        AnvilStreet x = Twins.none();
        x.anvil(1, 2, 3, 4, 5);
        x.day(1);
        x.image(kept);
        x.day(1);
        return x;
      });
      one.refused("from the other than " + kept, x -> x.from(1 - kept), -3, Twins.NO);
      one.refused("image 2", x -> x.image(2), -2, Twins.BAD);
      one.refused("image -1", x -> x.image(-1), -2, Twins.BAD);
    }
    AnvilStreet x = new AnvilStreet();
    x.image(2);
    x.image(-1);
    due("from 0, behind images that are BAD", x.from(0), -3);
    due("from 1, behind images that are BAD", x.from(1), -3);
  }

  /** Promises 32 and 33: "IMAGES 0, 1". */
  private static void imagesAreApart() {
    AnvilStreet x = new AnvilStreet();
    x.street(1);
    due("image 0", x.image(0), 1);
    x.street(2);
    due("image 1", x.image(1), 1);
    x.street(3);
    due("from 0", x.from(0), 1);
    due("the hand", x.count(2), 1);
    due("from 1", x.from(1), 1);
    due("the hand", x.count(2), 2);
    x.hand(4);
    due("image 0, again", x.image(0), 1);
    due("from 1", x.from(1), 1);
    due("the hand", x.count(2), 2);
    due("from 0", x.from(0), 1);
    due("the hand", x.count(2), 4);
    due("nothing is refused", x.status(0) + x.status(1) + x.status(2), 0);
  }

  /** An IMAGE of nothing, and of as much as there may be. */
  private static void imageOfNoneAndOfAll() {
    AnvilStreet x = new AnvilStreet();
    x.image(0);
    x.street(5);
    x.anvil(0, 1, 1, 1, 1);
    x.note(0, 1, 1, 1);
    x.came(0, 1, 1, 1);
    x.day(1);
    x.from(0);
    for (int what = 0; what <= 6; what++) due("of nothing: count " + what, x.count(what), 0);
    AnvilStreet y = Twins.full();
    long kept = y.digest();
    y.image(0);
    y.forget(0);
    y.forget(1);
    y.salt(3, 2);
    y.hand(9);
    y.from(0);
    due("of all", y.digest(), kept);
    for (int what = 3; what <= 4; what++) due("of all: count " + what, y.count(what), 6);
    due("of all: may be undone", y.count(5), 8);
    due("of all: anvils", y.count(0), 4);
    due("of all: the day", y.count(1), 999);
  }

  /** "what may be undone they keep". */
  private static void imageKeepsWhatMayBeUndone() {
    AnvilStreet x = new AnvilStreet();
    x.anvil(4, 1, 1, 1, 1);
    for (int i = 0; i < 9; i++) x.day(1);
    x.image(1);
    for (int i = 0; i < 8; i++) x.undo();
    x.hand(7);
    x.from(1);
    due("may be undone", x.count(5), 8);
    for (int i = 8; i >= 1; i--) due("undo", x.undo(), i);
    due("undo", x.undo(), -3);
    x.from(1);
    due("may be undone, once more", x.count(5), 8);
    due("undo, once more", x.undo(), 8);
    keptBesideAnother();
  }

  /** Eight of one street, kept, while another one has eight of its own. */
  private static void keptBesideAnother() {
    AnvilStreet x = new AnvilStreet();
    x.street(9);
    x.anvil(0, 20, 20, 20, 20);
    for (int i = 0; i < 4; i++) {
      x.day(1);
      x.hand(i);
    }
    x.image(0);
    x.street(8);
    x.anvil(4, 7, 7, 7, 7);
    for (int i = 0; i < 8; i++) x.day(60);
    x.image(1);
    x.street(0);
    x.from(0);
    for (int i = 3; i >= 0; i--) {
      due("undo hand " + i, x.undo(), i + 1);
      due("the hand", x.count(2), i == 0 ? 9 : i - 1);
      due("the memory", x.of(0, 4), 20 - i - 1);
      due("undo day " + i, x.undo(), i);
      due("the memory", x.of(0, 4), 20 - i);
    }
    x.from(1);
    for (int i = 7; i >= 0; i--) {
      due("undo", x.undo(), 60 * i);
      due("the hand", x.count(2), 8);
      due("the memory", x.of(0, 1), 7);
    }
    due("undo", x.undo(), -3);
  }

  /** "keep all but them, THE TEXT, THE FRACTION and STATUS". */
  private static void imageKeepsNotTheRest() {
    AnvilStreet x = new AnvilStreet();
    x.anvil(0, 3, 0, 0, 0);
    Twins.type(x, "street 1;");
    x.frost(0, 9);
    x.image(0);
    x.image(1);
    x.clear();
    Twins.type(x, "street 2;day;");
    x.frost(0, 5);
    x.day(0);
    x.undo();
    x.street(0);
    x.from(0);
    due("the text", x.count(6), 13);
    due("above", x.part(0), 3);
    due("below", x.part(1), 2);
    due("BAD", x.status(0), 1);
    due("NO", x.status(1), 1);
    due("the other image", x.from(1), 1);
    due("the text is read", x.read(), 2);
    due("the hand it tells", x.count(2), 2);
  }

  /** "it goes on from one": what comes behind changes no IMAGE. */
  private static void imageStaysAsItWas() {
    Supplier<AnvilStreet> made = Twins::full;
    AnvilStreet x = made.get();
    long kept = x.digest();
    x.from(0);
    due("as kept", x.digest() == kept ? 1 : 0, 1);
    x.street(3);
    x.anvil(5, 9, 9, 9, 9);
    x.note(0, 2, 2, 2);
    x.came(0, 2, 2, 2);
    x.work(0, 0, 5);
    x.day(60);
    x.from(0);
    due("as kept, still", x.digest(), kept);
    x.undo();
    x.undo();
    x.forget(0);
    x.from(0);
    due("as kept, still", x.digest(), kept);
    x.read();
    x.from(0);
    due("as kept, behind read", x.digest(), kept);
  }

  /** Promise 34: "BAD (0), NO (1), FULL (2)". */
  private static void statusOfEach() {
    AnvilStreet x = new AnvilStreet();
    for (int i = 0; i < 2; i++) x.day(0);
    for (int i = 0; i < 3; i++) x.undo();
    for (int i = 0; i < 9; i++) x.anvil(0, 0, 0, 0, 0);
    due("BAD", x.status(0), 2);
    due("NO", x.status(1), 3);
    due("FULL", x.status(2), 5);
  }

  /** "-1: another what (counts as BAD)". */
  private static void statusOfAnother() {
    for (Supplier<AnvilStreet> made : List.<Supplier<AnvilStreet>>of(Twins::none, Twins::full)) {
      Twins twins = new Twins(CHECK, made);
      for (int what : new int[] {-1, 3, -2, 100, Integer.MIN_VALUE, Integer.MAX_VALUE}) {
        twins.refused("status " + what, x -> x.status(what), -1, Twins.BAD);
      }
      int[] counted = {made.get().status(0), made.get().status(1), made.get().status(2)};
      for (int i = 0; i < 3; i++) {
        int what = i;
        twins.asked("status " + what, x -> x.status(what), counted[what]);
      }
    }
  }

  /** NONE, -5 and -10 less the FAULT are answers, not refusals. */
  private static void statusCountsNoAnswers() {
    AnvilStreet x = new AnvilStreet();
    due("best", x.best(0), -1);
    due("orders", x.orders(1, 1, 0), -1);
    due("two", x.two(0, 0, 0), -5);
    due("read", x.read(), -10);
    x.anvil(4, 1, 1, 1, 1);
    due("orders", x.orders(1, 1, 1), -5);
    due("clean", x.clean(0), -1);
    due("keep", x.keep(0), -1);
    due("waits", x.waits(0, 0, 0, 0), -1);
    x.note(0, 9, 0, 20);
    due("look", x.look(0), -1);
    for (int what = 0; what <= 2; what++) due("status " + what, x.status(what), 0);
  }

  /** Neither street, nor a TEXT that is read, nor an IMAGE makes STATUS another. */
  private static void statusIsNeverLess() {
    AnvilStreet x = new AnvilStreet();
    x.image(0);
    x.day(0);
    x.undo();
    for (int i = 0; i < 5; i++) x.anvil(0, 0, 0, 0, 0);
    x.street(0);
    x.from(0);
    Twins.type(x, "street 1;");
    x.read();
    x.clear();
    x.undo();
    due("BAD", x.status(0), 1);
    due("NO", x.status(1), 2);
    due("FULL", x.status(2), 1);
  }

  /** Promise 35. */
  private static void countOfNoneAndOfAll() {
    int[] all = {4, 999, 1, 6, 6, 8, 150};
    int[] some = {2, 2, 4, 2, 1, 4, 29};
    for (int i = 0; i <= 6; i++) {
      int what = i;
      new Twins(CHECK, Twins::none).asked("count " + what, x -> x.count(what), 0);
      new Twins(CHECK, Twins::some).asked("count " + what, x -> x.count(what), some[what]);
      new Twins(CHECK, Twins::full).asked("count " + what, x -> x.count(what), all[what]);
    }
    new Twins(CHECK, Twins::full).refused("count 7", x -> x.count(7), -2, Twins.BAD);
    new Twins(CHECK, Twins::full).refused("count -1", x -> x.count(-1), -2, Twins.BAD);
  }

  private static long digestOf(int... all) {
    long h = 1321;
    for (int v : all) h = 31 * h + v;
    return h;
  }

  /** Promise 36: seven counts and THE FRACTION alone. */
  private static void digestOfNone() {
    new Twins(CHECK, Twins::none).asked("digest", x -> x.digest(), digestOf(0, 0, 0, 0, 0, 0, 0, 0, 1));
    AnvilStreet x = new AnvilStreet();
    x.day(0);
    x.image(0);
    due("without STATUS and IMAGES", x.digest(), digestOf(0, 0, 0, 0, 0, 0, 0, 0, 1));
    x.type(65);
    due("a byte more", x.digest(), digestOf(0, 0, 0, 0, 0, 0, 1, 0, 1));
  }

  private static void digestOfAll() {
    AnvilStreet x = new AnvilStreet();
    x.street(9);
    for (int a = 0; a < 4; a++) x.anvil(a + 2, a, 20 - a, a + 5, 20);
    for (int i = 0; i < 6; i++) x.note(i % 4, i, 99 - i, 20 - i);
    for (int i = 0; i < 6; i++) x.came(3 - i % 4, i % 4, 9 - i, 50 - i);
    for (int i = 0; i < 9; i++) x.hand(9 - i);
    Twins.type(x, " ".repeat(150));
    x.frost(0, 1);
    int[] v = {4, 0, 1, 6, 6, 8, 150, 2, 0, 20, 5, 20, 3, 1, 19, 6, 20, 4, 2, 18, 7, 20, 5, 3, 17, 8, 20,
        0, 0, 99, 20, 1, 1, 98, 19, 2, 2, 97, 18, 3, 3, 96, 17, 0, 4, 95, 16, 1, 5, 94, 15,
        3, 0, 9, 50, 2, 1, 8, 49, 1, 2, 7, 48, 0, 3, 6, 47, 3, 0, 5, 46, 2, 1, 4, 45, 81, 2};
    due("digest", x.digest(), digestOf(v));
    new Twins(CHECK, Twins::full).asked("digest", AnvilStreet::digest, Twins.full().digest());
  }

  /** Each thing that is told in it makes it another, also where two change places. */
  private static void digestHasItsOrder() {
    AnvilStreet x = new AnvilStreet();
    AnvilStreet y = new AnvilStreet();
    x.anvil(0, 1, 2, 3, 4);
    y.anvil(0, 1, 2, 4, 3);
    due("memories", x.digest() == y.digest() ? 1 : 0, 0);
    due("memories, x", x.digest(), digestOf(1, 0, 0, 0, 0, 0, 0, 0, 1, 2, 3, 4, 0, 1));
    due("memories, y", y.digest(), digestOf(1, 0, 0, 0, 0, 0, 0, 0, 1, 2, 4, 3, 0, 1));
    x.came(0, 1, 2, 3);
    x.note(0, 4, 5, 6);
    due("notes ahead of came", x.digest(), digestOf(1, 0, 0, 1, 1, 0, 0, 0, 1, 2, 3, 4, 0, 4, 5, 6, 0, 1, 2, 3, 0, 1));
  }
}
