/** Promises 31 to 36: what there is. */
public final class WhatThereIsPromisesTest {
  private static final Check CHECK = new Check();

  public static void main(String[] args) {
    part();
    image();
    imageKeepsWhatMayBeUndone();
    imageDoesNotKeep();
    status();
    statusCountsEachRefusal();
    count();
    digest();
    CHECK.end();
  }

  private static void due(String call, long got, long want) {
    CHECK.due(call, got, want);
  }

  private static void part() {
    AnvilStreet x = new AnvilStreet();
    due("part 0", x.part(0), 0);
    due("part 1", x.part(1), 1);
    due("part -1", x.part(-1), -2);
    due("part 2", x.part(2), -2);
    x.anvil(0, 1, 1, 1, 0);
    x.frost(0, 3);
    due("part 0", x.part(0), 21);
    due("part 1", x.part(1), 10);
  }

  private static void image() {
    AnvilStreet x = new AnvilStreet();
    due("image -1", x.image(-1), -2);
    due("image 2", x.image(2), -2);
    due("from -1", x.from(-1), -2);
    due("from 2", x.from(2), -2);
    due("from 0", x.from(0), -3);
    x.street(3);
    x.anvil(2, 1, 2, 3, 4);
    x.note(0, 1, 2, 3);
    x.came(0, 1, 2, 3);
    x.day(5);
    long kept = x.digest();
    due("image 0", x.image(0), 1);
    due("from 1", x.from(1), -3);
    x.anvil(1, 9, 9, 9, 9);
    x.note(1, 4, 4, 4);
    x.came(1, 1, 4, 4);
    x.day(1);
    x.hand(0);
    due("image 1", x.image(1), 1);
    long other = x.digest();
    due("from 0", x.from(0), 1);
    due("as kept", x.digest(), kept);
    x.work(0, 0, 5);
    x.forget(0);
    due("from 0, again", x.from(0), 1);
    due("as kept", x.digest(), kept);
    due("from 1", x.from(1), 1);
    due("as kept", x.digest(), other);
    x.salt(0, 1);
    long third = x.digest();
    due("image 0, anew", x.image(0), 1);
    x.street(0);
    due("from 0", x.from(0), 1);
    due("as kept", x.digest(), third);
  }

  private static void imageKeepsWhatMayBeUndone() {
    AnvilStreet x = new AnvilStreet();
    x.anvil(0, 9, 9, 9, 9);
    x.day(1);
    x.day(1);
    x.image(0);
    x.undo();
    x.undo();
    due("may be undone", x.count(5), 0);
    x.day(7);
    x.from(0);
    due("may be undone", x.count(5), 2);
    due("undo", x.undo(), 1);
    due("memory", x.of(0, 1), 8);
    due("undo", x.undo(), 0);
    due("memory", x.of(0, 1), 9);
    due("undo", x.undo(), -3);
  }

  private static void imageDoesNotKeep() {
    AnvilStreet x = new AnvilStreet();
    x.anvil(0, 10, 0, 0, 0);
    x.image(0);
    x.image(1);
    x.type(65);
    x.frost(0, 5);
    x.day(0);
    x.from(0);
    due("text", x.count(6), 1);
    due("part 0", x.part(0), 5);
    due("status", x.status(0), 1);
    x.street(1);
    x.from(0);
    due("the other image stays", x.from(1), 1);
    due("anvil", x.of(0, 1), 10);
  }

  private static void status() {
    AnvilStreet x = new AnvilStreet();
    due("status 3", x.status(3), -1);
    due("status -1", x.status(-1), -1);
    due("status 0", x.status(0), 2);
    x.undo();
    x.from(0);
    x.from(1);
    due("status 1", x.status(1), 3);
    for (int i = 0; i < 6; i++) x.anvil(0, 0, 0, 0, 0);
    for (int i = 0; i < 8; i++) x.note(0, 0, 0, 0);
    for (int i = 0; i < 9; i++) x.came(0, 0, 0, 0);
    due("status 2", x.status(2), 2 + 2 + 3);
    due("status 0", x.status(0), 2);
    due("NOT SO MANY is none", x.orders(1, 1, 1), -5);
    x.two(0, 0, 99);
    x.read();
    x.keep(0);
    due("status 0", x.status(0), 2);
    due("status 1", x.status(1), 3);
  }

  /** Each call with numbers that are not as told counts once, as BAD, and changes nothing else. */
  private static void statusCountsEachRefusal() {
    AnvilStreet x = new AnvilStreet();
    x.anvil(0, 1, 2, 3, 4);
    long before = x.digest();
    long[] answers = {
      x.street(10), x.anvil(9, 0, 0, 0, 0), x.type(200), x.work(4, 0, 1), x.day(99), x.salt(4, 0), x.hand(99),
      x.of(4, 0), x.up(4, 0), x.foreign(4, 0), x.then(4, 0, 0), x.clean(4), x.keep(4), x.best(4), x.waits(4, 0, 0, 0),
      x.note(4, 0, 0, 0), x.came(4, 0, 0, 0), x.forget(4), x.is(4), x.look(4), x.memory(4, 0), x.whose(99, 0, 0, 0),
      x.frost(4, 0), x.streets(-1, 0), x.part(4), x.image(4), x.from(4), x.count(7)};
    for (int i = 0; i < answers.length; i++) due("refused, " + i, answers[i], -2);
    due("orders", x.orders(9, 1, 0), -10);
    due("two", x.two(9, 1, 0), -10);
    due("status 0", x.status(0), answers.length + 2);
    due("status 1", x.status(1), 0);
    due("status 2", x.status(2), 0);
    due("digest", x.digest(), before);
  }

  private static void count() {
    AnvilStreet x = new AnvilStreet();
    x.street(6);
    x.anvil(0, 1, 2, 3, 4);
    x.anvil(0, 1, 2, 3, 4);
    x.day(9);
    for (int i = 0; i < 3; i++) x.note(0, 0, 0, 0);
    for (int i = 0; i < 4; i++) x.came(0, 0, 0, 0);
    for (int i = 0; i < 5; i++) x.type(32);
    int[] counts = {2, 9, 6, 3, 4, 1, 5};
    for (int what = 0; what < 7; what++) due("count " + what, x.count(what), counts[what]);
    due("count -1", x.count(-1), -2);
    due("count 7", x.count(7), -2);
  }

  private static void digest() {
    AnvilStreet x = new AnvilStreet();
    x.street(6);
    x.anvil(5, 1, 2, 3, 4);
    x.anvil(2, 20, 19, 18, 17);
    x.note(1, 7, 99, 6);
    x.note(0, 8, 98, 5);
    x.came(1, 2, 9, 50);
    x.frost(0, 5);
    x.hand(3);
    x.type(1);
    x.type(2);
    long h = 1321;
    int[] all = {2, 0, 3, 2, 1, 1, 2, 5, 1, 2, 3, 4, 2, 20, 19, 18, 17, 1, 7, 99, 6, 0, 8, 98, 5, 1, 2, 9, 50, 5, 1};
    for (int v : all) h = 31 * h + v;
    due("digest", x.digest(), h);
    x.forget(0);
    x.forget(1);
    x.clear();
    x.undo();
    h = 1321;
    int[] less = {2, 0, 6, 0, 0, 0, 0, 5, 1, 2, 3, 4, 2, 20, 19, 18, 17, 5, 1};
    for (int v : less) h = 31 * h + v;
    due("digest", x.digest(), h);
  }
}
