/** Promises 1 to 6: a street. */
public final class StreetPromisesTest {
  private static final Check CHECK = new Check();

  public static void main(String[] args) {
    constants();
    newObject();
    street();
    streetLeavesWhatIsToldApart();
    anvil();
    type();
    clear();
    read();
    readTakesThePlaceOfAllButSome();
    readFaults();
    readNumbers();
    readLexes();
    CHECK.end();
  }

  private static void due(String call, long got, long want) {
    CHECK.due(call, got, want);
  }

  static void typeAll(AnvilStreet x, String text) {
    x.clear();
    for (int i = 0; i < text.length(); i++) {
      due("type of '" + text + "'", x.type(text.charAt(i)), i + 1);
    }
  }

  private static void constants() {
    due("NONE", AnvilStreet.NONE, -1);
    due("BAD", AnvilStreet.BAD, -2);
    due("NO", AnvilStreet.NO, -3);
    due("FULL", AnvilStreet.FULL, -4);
  }

  private static void newObject() {
    AnvilStreet x = new AnvilStreet();
    for (int what = 0; what <= 6; what++) due("new: count " + what, x.count(what), 0);
    due("new: part 0", x.part(0), 0);
    due("new: part 1", x.part(1), 1);
    for (int what = 0; what <= 2; what++) due("new: status " + what, x.status(what), 0);
    due("new: undo", x.undo(), -3);
    due("new: from 0", x.from(0), -3);
    due("new: from 1", x.from(1), -3);
    due("new: of 0 0", x.of(0, 0), -2);
    due("new: best 0", x.best(0), -1);
    due("new: read", x.read(), -10);
    long h = 1321;
    for (int v : new int[] {0, 0, 0, 0, 0, 0, 0, 0, 1}) h = 31 * h + v;
    due("new: digest", x.digest(), h);
  }

  private static void street() {
    AnvilStreet x = new AnvilStreet();
    due("street 4", x.street(4), 0);
    due("street: hand", x.count(2), 4);
    x.anvil(0, 1, 2, 3, 4);
    x.anvil(1, 1, 2, 3, 4);
    x.day(3);
    x.note(0, 1, 1, 1);
    x.came(0, 1, 1, 1);
    due("street 10", x.street(10), -2);
    due("street -1", x.street(-1), -2);
    due("street, refused: anvils", x.count(0), 2);
    due("street, refused: hand", x.count(2), 4);
    due("street 9", x.street(9), 2);
    due("street: anvils", x.count(0), 0);
    due("street: day", x.count(1), 0);
    due("street: hand", x.count(2), 9);
    due("street: notes", x.count(3), 0);
    due("street: came", x.count(4), 0);
    due("street: undone", x.count(5), 0);
    due("street 0", x.street(0), 0);
    due("street: hand", x.count(2), 0);
    due("street: anvil", x.anvil(2, 0, 0, 0, 0), 0);
  }

  private static void streetLeavesWhatIsToldApart() {
    AnvilStreet x = new AnvilStreet();
    x.anvil(0, 5, 5, 5, 5);
    x.frost(0, 5);
    x.image(0);
    x.type(65);
    x.day(0);
    x.street(3);
    due("street: part 0", x.part(0), 10);
    due("street: part 1", x.part(1), 1);
    due("street: text", x.count(6), 1);
    due("street: status", x.status(0), 1);
    due("street: from 0", x.from(0), 1);
    due("street: from 0 brings the anvil", x.of(0, 1), 5);
    due("street: from 0 brings the hand", x.count(2), 0);
  }

  private static void anvil() {
    AnvilStreet x = new AnvilStreet();
    due("anvil kind -1", x.anvil(-1, 0, 0, 0, 0), -2);
    due("anvil kind 6", x.anvil(6, 0, 0, 0, 0), -2);
    due("anvil a -1", x.anvil(0, -1, 0, 0, 0), -2);
    due("anvil a 21", x.anvil(0, 21, 0, 0, 0), -2);
    due("anvil b -1", x.anvil(0, 0, -1, 0, 0), -2);
    due("anvil b 21", x.anvil(0, 0, 21, 0, 0), -2);
    due("anvil c -1", x.anvil(0, 0, 0, -1, 0), -2);
    due("anvil c 21", x.anvil(0, 0, 0, 21, 0), -2);
    due("anvil d -1", x.anvil(0, 0, 0, 0, -1), -2);
    due("anvil d 21", x.anvil(0, 0, 0, 0, 21), -2);
    due("anvils", x.count(0), 0);
    due("anvil 0", x.anvil(5, 0, 1, 2, 20), 0);
    due("anvil 1", x.anvil(0, 20, 19, 18, 17), 1);
    due("anvil 2", x.anvil(3, 0, 0, 0, 0), 2);
    due("anvil 3", x.anvil(4, 7, 8, 9, 10), 3);
    due("anvil, full", x.anvil(0, 0, 0, 0, 0), -4);
    due("anvil, bad ahead of full", x.anvil(0, 21, 0, 0, 0), -2);
    due("anvils", x.count(0), 4);
    int[][] all = {{5, 0, 1, 2, 20}, {0, 20, 19, 18, 17}, {3, 0, 0, 0, 0}, {4, 7, 8, 9, 10}};
    for (int a = 0; a < 4; a++) {
      for (int what = 0; what < 5; what++) due("of " + a + " " + what, x.of(a, what), all[a][what]);
    }
  }

  private static void type() {
    AnvilStreet x = new AnvilStreet();
    due("type -1", x.type(-1), -2);
    due("type 128", x.type(128), -2);
    due("type 0", x.type(0), 1);
    due("type 127", x.type(127), 2);
    for (int i = 3; i <= 150; i++) due("type", x.type(32), i);
    due("type, full", x.type(32), -4);
    due("type, bad ahead of full", x.type(128), -2);
    due("bytes", x.count(6), 150);
    due("full, counted", x.status(2), 1);
  }

  private static void clear() {
    AnvilStreet x = new AnvilStreet();
    due("clear", x.clear(), 0);
    x.type(97);
    x.type(98);
    due("clear", x.clear(), 2);
    due("bytes", x.count(6), 0);
    due("clear", x.clear(), 0);
    due("type", x.type(99), 1);
  }

  private static void read() {
    AnvilStreet x = new AnvilStreet();
    typeAll(x, "street 3;anvil 3 4 5 6 7;anvil 5 1 2 3 4;work 0 0 5;work 1 3 4;day;day;");
    due("read", x.read(), 7);
    due("read: anvils", x.count(0), 2);
    due("read: day", x.count(1), 2);
    due("read: hand", x.count(2), 3);
    due("read: undone", x.count(5), 0);
    due("read: text stays", x.count(6), 71);
    // SALT: 4 and 3 by 5 blows, then half of one less, twice.
    int[] salt = {3, 1, 0, 0, 1};
    // CLOTH, as COLD: one less behind DAY 0, none behind DAY 1; 8 more by 4 blows.
    int[] cloth = {5, 0, 1, 2, 11};
    for (int what = 0; what < 5; what++) {
      due("read: of 0 " + what, x.of(0, what), salt[what]);
      due("read: of 1 " + what, x.of(1, what), cloth[what]);
    }
    due("read again", x.read(), 7);
    due("read again: of 1 4", x.of(1, 4), 11);
  }

  private static void readTakesThePlaceOfAllButSome() {
    AnvilStreet x = new AnvilStreet();
    x.anvil(0, 9, 9, 9, 9);
    x.day(40);
    x.hand(5);
    x.note(0, 1, 1, 1);
    x.came(0, 1, 1, 1);
    x.frost(0, 5);
    x.image(1);
    x.day(0);
    x.anvil(1, 9, 9, 9, 9);
    x.salt(1, 1);
    typeAll(x, "street 7;");
    due("read", x.read(), 1);
    int[] counts = {0, 0, 7, 0, 0, 0, 9};
    for (int what = 0; what < 7; what++) due("read: count " + what, x.count(what), counts[what]);
    due("read: part 1", x.part(1), 1);
    due("read: status", x.status(0), 1);
    due("read: undo", x.undo(), -3);
    due("read: from 1", x.from(1), 1);
    due("read: from 1, day", x.count(1), 40);
  }

  private static void fault(String text, int place) {
    AnvilStreet x = new AnvilStreet();
    x.street(2);
    x.anvil(1, 1, 2, 3, 4);
    x.hand(8);
    x.note(0, 1, 1, 1);
    typeAll(x, text);
    long before = x.digest();
    due("read of '" + text + "'", x.read(), -10 - place);
    due("read of '" + text + "': all stays", x.digest(), before);
    due("read of '" + text + "': none is counted", x.status(0) + x.status(1) + x.status(2), 0);
  }

  private static void readFaults() {
    fault("", 0);
    fault("   ", 3);
    fault("street", 6);
    fault("street ", 7);
    fault("street 1", 8);
    fault("street 1;day", 12);
    fault("street 1;day ", 13);
    fault("street 1;anvil 0 0 0 0", 22);
    fault(";street 1;", 0);
    fault("day;street 1;", 0);
    fault("anvil 0 1 1 1 1;", 0);
    fault("  1", 2);
    fault("street 1;street 2;", 9);
    fault("street 1; street 2;", 10);
    fault("street 1;;", 9);
    fault("street;", 6);
    fault("street 1 2;", 9);
    fault("street 1;days;", 9);
    fault("street 1;da;", 9);
    fault("street 1;work 0 0 1;", 14);
    fault("street 1;anvil 0 0 0 0 0;work 1 0 1;", 30);
    fault("street 1;anvil 0 0 0 0 0;work 0 4 1;", 32);
    fault("street 1;anvil 0 0 0 0 0;work 0 0 0;", 34);
    fault("street 1;anvil 0 0 0 0 0;work 0 0 6;", 34);
    fault("street 1;anvil 0 0 0 0 0;work 0 0 1 1;", 36);
    fault("street 1;anvil 0 0 0 0;", 22);
    fault("street 1;day 1;", 13);
    fault("street 1;anvil 0 0 0 0 0;anvil 0 0 0 0 0;anvil 0 0 0 0 0;anvil 0 0 0 0 0;anvil 0 0 0 0 0;", 73);
    fault("street 1;anvil 0 0 0 0 0;anvil 0 0 0 0 0;anvil 0 0 0 0 0;anvil 0 0 0 0 0;  anvil", 75);
    fault("str", 0);
    fault("streetz 1;", 0);
    fault("atreet 1;", 0);
    fault("street 1;wday;", 9);
    fault(";".repeat(150), 0);
    fault("street 1;" + ";".repeat(141), 9);
    fault("1 ".repeat(75), 0);
    fault("street 1;" + "day;".repeat(35) + "d", 149);
    fault("street 1;wor", 9);
    fault("Street 1;", 0);
    fault("street 1;dAy;", 9);
    fault("street 1;day\t;", 12);
    fault("street 1;day,", 12);
    fault("street\0001;", 6);
    fault("street 1;day\177", 12);
    fault("street `;", 7);
    fault("street {;", 7);
    fault("street /;", 7);
    fault("street :;", 7);
  }

  private static void readNumbers() {
    fault("street 10;", 7);
    fault("street 000;", 7);
    fault("street 0000000000000000000000000000000000000005;", 7);
    fault("street 4294967296;", 7);
    fault("street -1;", 7);
    fault("street 1;anvil 6 0 0 0 0;", 15);
    fault("street 1;anvil 0 21 0 0 0;", 17);
    fault("street 1;anvil 0 0 21 0 0;", 19);
    fault("street 1;anvil 0 0 0 21 0;", 21);
    fault("street 1;anvil 0 0 0 0 21;", 23);
    fault("street 1;anvil 0 0 0 0 020;", 23);
    AnvilStreet x = new AnvilStreet();
    typeAll(x, "street 09;anvil 05 00 20 09 1;work 00 03 05;");
    due("read", x.read(), 3);
    due("read: hand", x.count(2), 9);
    due("read: kind", x.of(0, 0), 5);
    due("read: memory", x.of(0, 2), 20);
    due("read: memory", x.of(0, 4), 11);
  }

  private static void readMindsNoBytesCleared() {
    AnvilStreet x = new AnvilStreet();
    typeAll(x, "xxxxxxxxxxxxxxxxxxxx");
    typeAll(x, "street 1;day");
    due("read", x.read(), -22);
    typeAll(x, "street 1;day;11111111");
    typeAll(x, "street 1;day;");
    due("read", x.read(), 2);
    typeAll(x, "street 1;111111111");
    typeAll(x, "street 0;");
    due("read", x.read(), 1);
    due("read: hand", x.count(2), 0);
  }

  private static void readLexes() {
    AnvilStreet x = new AnvilStreet();
    typeAll(x, "  street3  ;anvil0 1 2 3 4;  work0 0 5;day ; ");
    due("read", x.read(), 4);
    due("read: memory", x.of(0, 1), 5);
    due("read: hand", x.count(2), 3);
    fault("street12;", 6);
    fault("street 1 anvil 0 0 0 0 0;", 9);
    fault("streetanvil 1;", 0);
    fault("street 1;anvil 00000;", 15);
    fault("street 1day;", 8);
    readMindsNoBytesCleared();
    typeAll(x, "street 1;day;day;day;day;day;day;day;day;day;day;day;day;day;day;day;day;day;day;day;day;"
        + "day;day;day;day;day;day;day;day;day;day;day;day;day;day;day; ");
    due("read", x.read(), 36);
    due("read: day", x.count(1), 35);
    typeAll(x, "street 1;" + " ".repeat(141));
    due("read", x.read(), 1);
  }
}
