import java.util.function.Supplier;

/** The boundaries of THE TEXT: bytes, TOKENS, ITEMS, every FAULT that the Terms name; promises 4 to 6. */
public final class EdgesOfTextTest {
  private static final Check CHECK = new Check();
  private static final String FOUR_ANVILS = "anvil 0 0 0 0 0;".repeat(4);

  public static void main(String[] args) {
    bytesOfTheText();
    aFullText();
    clearing();
    anEmptyText();
    blanksAlone();
    streetIsFirstOfAll();
    streetIsOnce();
    theHand();
    wordsThatAreNone();
    wordsWhereNoneStands();
    bytesThatBeginNone();
    figures();
    blanksAnyNumber();
    blanksNeeded();
    anvilAtItsWord();
    kindAndMemories();
    numbersTooFewAndTooMany();
    workOnAnAnvilThatIsThere();
    workOnNoneThatIsThereYet();
    temperAndBlows();
    worksAreDone();
    daysGoBy();
    endsTooEarly();
    itemsAreCounted();
    takesThePlace();
    aFaultLeavesAll();
    theFirstFaultIsTold();
    CHECK.end();
  }

  private static AnvilStreet typed(Supplier<AnvilStreet> made, String text) {
    AnvilStreet x = made.get();
    x.clear();
    Twins.type(x, text);
    CHECK.due("bytes of '" + text + "'", x.count(6), text.length());
    return x;
  }

  private static AnvilStreet reads(String text, int items) {
    AnvilStreet x = typed(Twins::none, text);
    CHECK.due("read of '" + text + "'", x.read(), items);
    CHECK.due("read of '" + text + "': nothing is refused", x.status(0) + x.status(1) + x.status(2), 0);
    return x;
  }

  private static void fault(String text, int place) {
    new Twins(CHECK, () -> typed(Twins::some, text)).asked("read of '" + text + "'", x -> x.read(), -10 - place);
  }

  /** A FAULT behind "street 1;". */
  private static void faultBehind(String text, int place) {
    fault("street 1;" + text, 9 + place);
  }

  private static void is(AnvilStreet x, int anvil, int... told) {
    for (int what = 0; what < 5; what++) CHECK.due("of " + anvil + " " + what, x.of(anvil, what), told[what]);
  }

  /** "A byte (0 .. 127) comes behind THE TEXT: how many it has." */
  private static void bytesOfTheText() {
    AnvilStreet x = new AnvilStreet();
    CHECK.due("type 0", x.type(0), 1);
    CHECK.due("type 127", x.type(127), 2);
    CHECK.due("type -1", x.type(-1), -2);
    CHECK.due("type 128", x.type(128), -2);
    CHECK.due("type 1", x.type(1), 3);
    CHECK.due("bytes", x.count(6), 3);
  }

  /** "(150 bytes at most)", "FULL". */
  private static void aFullText() {
    AnvilStreet x = typed(Twins::none, "street 01;" + "day;".repeat(34) + "day");
    CHECK.due("149 bytes", x.count(6), 149);
    CHECK.due("the 150th", x.type(';'), 150);
    new Twins(CHECK, () -> typed(Twins::some, " ".repeat(150))).refused("the 151st", y -> y.type(32), -4, Twins.FULL);
    new Twins(CHECK, () -> typed(Twins::some, " ".repeat(150))).refused("the 151st, BAD", y -> y.type(128), -2, Twins.BAD);
    CHECK.due("the 151st", x.type('x'), -4);
    CHECK.due("read of 150 bytes", x.read(), 36);
    CHECK.due("all days go by", x.count(1), 35);
    CHECK.due("clear of 150", x.clear(), 150);
    CHECK.due("type behind clear", x.type(32), 1);
    fault(";".repeat(150), 0);
    fault("1;".repeat(75), 0);
    fault("street 1;" + ";".repeat(141), 9);
    fault("street 1;" + "a1".repeat(70) + ";", 9);
    fault("street 1;" + "day;".repeat(35) + "!", 149);
    fault("street 01;" + "day;".repeat(34) + "day ", 150);
    fault("street 1;" + "day;".repeat(34) + "day", 148);
  }

  /** Promise 5: "THE TEXT is empty: how many it had." */
  private static void clearing() {
    AnvilStreet x = new AnvilStreet();
    CHECK.due("clear of nothing", x.clear(), 0);
    x.type(65);
    CHECK.due("clear of one", x.clear(), 1);
    CHECK.due("bytes", x.count(6), 0);
    CHECK.due("read behind clear", x.read(), -10);
    Twins.type(x, "street 1;day;");
    x.clear();
    Twins.type(x, "street 2;");
    CHECK.due("bytes that were cleared are not read", x.read(), 1);
    AnvilStreet y = Twins.some();
    y.clear();
    AnvilStreet z = Twins.some();
    z.clear();
    z.clear();
    CHECK.due("clear, again: all else stays", z.digest(), y.digest());
  }

  /** "the TEXT's length, if it ends too early (an empty one, too)". */
  private static void anEmptyText() {
    fault("", 0);
    new Twins(CHECK, Twins::none).asked("read of a new one", x -> x.read(), -10);
  }

  private static void blanksAlone() {
    fault(" ", 1);
    fault("  ", 2);
    fault(" ".repeat(149), 149);
    fault(" ".repeat(150), 150);
  }

  /** "street HAND (once, first of all)", "anything ahead of it". */
  private static void streetIsFirstOfAll() {
    reads("street 1;", 1);
    fault("anvil 0 0 0 0 0;street 1;", 0);
    fault("work 0 0 1;street 1;", 0);
    fault("day;street 1;", 0);
    fault("1;street 1;", 0);
    fault("; street 1;", 0);
    fault("word street 1;", 0);
    fault("?street 1;", 0);
    fault("   day;street 1;", 3);
    fault("day;", 0);
    fault("day", 0);
  }

  /** "street again". */
  private static void streetIsOnce() {
    faultBehind("street 1;", 0);
    faultBehind("street", 0);
    faultBehind("  street 2;", 2);
    faultBehind("day;street 1;", 4);
    faultBehind("anvil 0 0 0 0 0;work 0 0 1;street 1;", 27);
    fault("street street 1;", 7);
    fault("street 1 street 1;", 9);
    faultBehind("day street;", 4);
  }

  /** "THE HAND (0 .. 9)". */
  private static void theHand() {
    String[] told = {"street 0;", "street 9;", "street 00;", "street 09;", "street 5;"};
    int[] hands = {0, 9, 0, 9, 5};
    for (int i = 0; i < told.length; i++) CHECK.due("hand of '" + told[i] + "'", reads(told[i], 1).count(2), hands[i]);
    fault("street 10;", 7);
    fault("street 99;", 7);
    fault("street;", 6);
    fault("street 1 1;", 9);
    fault("street day;", 7);
    fault("street -1;", 7);
  }

  /** "a word that is none". */
  private static void wordsThatAreNone() {
    for (String word : new String[] {"a", "z", "stree", "streets", "treet", "sstreet", "strest", "abcdefghijklmnopqrstuvwxyz"}) {
      fault(word + " 1;", 0);
    }
    for (String word : new String[] {"a", "z", "da", "days", "daya", "dayz", "ay", "aday", "zday", "dax", "bay", "dzy"}) faultBehind(word + ";", 0);
    for (String word : new String[] {"anvi", "anvils", "nvil", "bnvil", "anvim", "anvl"}) faultBehind(word + " 0 0 0 0 0;", 0);
    for (String word : new String[] {"wor", "works", "ork", "xork", "worm", "wrk"}) {
      faultBehind("anvil 0 0 0 0 0;" + word + " 0 0 1;", 16);
    }
    faultBehind("da", 0);
    faultBehind("dayday;", 0);
    faultBehind("plain;", 0);
    faultBehind("anvil plain 0 0 0 0;", 6);
  }

  private static void wordsWhereNoneStands() {
    faultBehind("anvil day;", 6);
    faultBehind("anvil 0 0 0 0 work;", 14);
    faultBehind("anvil 0 0 0 0 0 day;", 16);
    faultBehind("anvil 0 0 0 0 0;work anvil 0 1;", 21);
    faultBehind("day day;", 4);
    faultBehind("5;", 0);
    faultBehind("0", 0);
    faultBehind(";", 0);
    faultBehind("day;;", 4);
  }

  /** "a byte that begins none": all but a .. z, 0 .. 9, ; and the blank. */
  private static void bytesThatBeginNone() {
    for (int c = 0; c <= 127; c++) {
      boolean begins = c >= 97 && c <= 122 || c >= 48 && c <= 57 || c == 59 || c == 32;
      if (!begins) {
        CHECK.due("byte " + c, typed(Twins::none, (char) c + "street 1;").read(), -10);
        CHECK.due("byte " + c + " for a number", typed(Twins::none, "street " + (char) c + ";").read(), -17);
        CHECK.due("byte " + c + " behind a word", typed(Twins::none, "street" + (char) c + "1;").read(), -16);
        CHECK.due("byte " + c + " behind a number", typed(Twins::none, "street 1" + (char) c + ";").read(), -18);
        CHECK.due("byte " + c + " behind all", typed(Twins::none, "street 1;" + (char) c).read(), -19);
        CHECK.due("byte " + c + " in a word", typed(Twins::none, "street 1;d" + (char) c + "y;").read(), -19);
      }
    }
    fault("Street 1;", 0);
    faultBehind("DAY;", 0);
    faultBehind("daY;", 0);
    faultBehind("day\n;", 3);
    faultBehind("day:", 3);
  }

  /** "figures (1 or 2 are one number)", "a run of three figures or more (at its first one)". */
  private static void figures() {
    is(reads("street 1;anvil 0 1 01 10 20;", 2), 0, 0, 1, 1, 10, 20);
    is(reads("street 1;anvil 05 0 00 9 09;", 2), 0, 5, 0, 0, 9, 9);
    fault("street 001;", 7);
    fault("street 000;", 7);
    fault("street 0001;", 7);
    fault("street 123456789;", 7);
    fault("street " + "0".repeat(143), 7);
    faultBehind("anvil 000 1 1 1 1;", 6);
    faultBehind("anvil 0 001 1 1 1;", 8);
    faultBehind("anvil 0 1 1 1 100;", 14);
    faultBehind("day;100", 4);
    fault("123street 1;", 0);
  }

  /** "blanks (32), any number, ahead of, between and behind TOKENS". */
  private static void blanksAnyNumber() {
    reads(" street 1;", 1);
    reads("street 1; ", 1);
    reads("street 1 ;", 1);
    reads("street     1;", 1);
    reads(" ".repeat(141) + "street 1;", 1);
    reads("street 1;" + " ".repeat(141), 1);
    reads("street" + " ".repeat(142) + "1;", 1);
    reads("  street  1  ;  day  ;  day  ;  ", 3);
    fault("str eet 1;", 0);
    faultBehind("d ay;", 0);
  }

  /** "(needed only between two words, two numbers)". */
  private static void blanksNeeded() {
    AnvilStreet x = reads("street3;anvil1 2 3 4 5;work0 1 2;day;", 4);
    CHECK.due("the hand", x.count(2), 3);
    CHECK.due("the memory", x.of(0, 2), 4);
    faultBehind("anvil 01 2 3 4;", 14);
    faultBehind("anvil 0 1 2 14;", 14);
    faultBehind("anvil 0 1 2 34;", 12);
    faultBehind("anvil 00000;", 6);
    fault("streetday;", 0);
    fault("street1day;", 7);
    fault("street 1 2;", 9);
    reads("street1;day;day;", 3);
  }

  /** "a 5th anvil at its word". */
  private static void anvilAtItsWord() {
    AnvilStreet x = reads("street 1;" + FOUR_ANVILS, 5);
    CHECK.due("four anvils", x.count(0), 4);
    faultBehind(FOUR_ANVILS + "anvil 0 0 0 0 0;", 64);
    faultBehind(FOUR_ANVILS + "anvil", 64);
    faultBehind(FOUR_ANVILS + "  anvil 99 x;", 66);
    faultBehind(FOUR_ANVILS + "day;anvil 0 0 0 0 0;", 68);
    faultBehind(FOUR_ANVILS + "anvils 0 0 0 0 0;", 64);
  }

  /** "a number not as told": KINDS 0 to 5, MEMORIES 0 to 20. */
  private static void kindAndMemories() {
    is(reads("street 1;anvil 0 0 0 0 0;", 2), 0, 0, 0, 0, 0, 0);
    is(reads("street 1;anvil 5 20 20 20 20;", 2), 0, 5, 20, 20, 20, 20);
    is(reads("street 1;anvil 4 1 2 3 4;anvil 3 19 18 17 16;", 3), 1, 3, 19, 18, 17, 16);
    faultBehind("anvil 6 0 0 0 0;", 6);
    faultBehind("anvil 9 0 0 0 0;", 6);
    faultBehind("anvil 10 0 0 0 0;", 6);
    faultBehind("anvil 0 21 0 0 0;", 8);
    faultBehind("anvil 0 0 21 0 0;", 10);
    faultBehind("anvil 0 0 0 21 0;", 12);
    faultBehind("anvil 0 0 0 0 21;", 14);
    faultBehind("anvil 0 0 0 0 99;", 14);
  }

  private static void numbersTooFewAndTooMany() {
    faultBehind("anvil;", 5);
    faultBehind("anvil 0;", 7);
    faultBehind("anvil 0 0 0 0;", 13);
    faultBehind("anvil 0 0 0 0 0 0;", 16);
    faultBehind("day 0;", 4);
    faultBehind("anvil 0 0 0 0 0;work;", 20);
    faultBehind("anvil 0 0 0 0 0;work 0;", 22);
    faultBehind("anvil 0 0 0 0 0;work 0 0;", 24);
    faultBehind("anvil 0 0 0 0 0;work 0 0 1 1;", 27);
  }

  private static void workOnAnAnvilThatIsThere() {
    reads("street 1;anvil 0 0 0 0 0;work 0 0 1;", 3);
    AnvilStreet x = reads("street 1;" + FOUR_ANVILS + "work 0 0 1;work 3 0 2;work 03 1 3;", 8);
    is(x, 0, 0, 1, 0, 0, 0);
    is(x, 3, 0, 2, 3, 0, 0);
  }

  /** "also an ANVIL that is not there yet". */
  private static void workOnNoneThatIsThereYet() {
    faultBehind("work 0 0 1;", 5);
    faultBehind("work 0 0 1;anvil 0 0 0 0 0;", 5);
    faultBehind("anvil 0 0 0 0 0;work 1 0 1;", 21);
    faultBehind("anvil 0 0 0 0 0;work 1 0 1;anvil 0 0 0 0 0;", 21);
    faultBehind(FOUR_ANVILS + "work 4 0 1;", 69);
    faultBehind(FOUR_ANVILS + "work 04 0 1;", 69);
    faultBehind("work", 4);
  }

  /** TEMPERS 0 to 3, BLOWS 1 to 5. */
  private static void temperAndBlows() {
    is(reads("street 1;anvil 0 0 0 0 0;work 0 0 1;work 0 3 5;", 4), 0, 0, 1, 0, 0, 5);
    faultBehind("anvil 0 0 0 0 0;work 0 4 1;", 23);
    faultBehind("anvil 0 0 0 0 0;work 0 10 1;", 23);
    faultBehind("anvil 0 0 0 0 0;work 0 0 0;", 25);
    faultBehind("anvil 0 0 0 0 0;work 0 0 6;", 25);
    faultBehind("anvil 0 0 0 0 0;work 0 0 00;", 25);
  }

  /** "work a t n (done)", with 20 kept. */
  private static void worksAreDone() {
    is(reads("street 1;anvil 0 15 16 0 0;work 0 0 5;work 0 1 5;", 4), 0, 0, 20, 20, 0, 0);
    is(reads("street 1;anvil 5 10 11 0 0;work 0 0 5;work 0 1 5;", 4), 0, 5, 20, 20, 0, 0);
    is(reads("street 1;anvil 3 0 0 0 0;work 0 0 5;work 0 1 1;", 4), 0, 3, 3, 1, 0, 0);
  }

  /** "day (a DAY goes by)", by its number, from DAY 0. */
  private static void daysGoBy() {
    AnvilStreet x = typed(Twins::full, "street 1;anvil 1 7 1 0 20;day;day;");
    CHECK.due("read, late before", x.read(), 4);
    is(x, 0, 1, 6, 0, 0, 19);
    CHECK.due("the day", x.count(1), 2);
    is(reads("street 1;anvil 2 7 1 0 20;day;day;day;day;", 6), 0, 2, 5, 0, 0, 18);
    is(reads("street 1;day;anvil 2 7 1 0 20;day;day;", 5), 0, 2, 7, 1, 0, 20);
    CHECK.due("no day", reads("street 1;", 1).count(1), 0);
  }

  /** Each beginning of a text: whole behind each ; and else a FAULT at its length, or at a word cut short. */
  private static void endsTooEarly() {
    String text = "street 1;anvil 2 10 4 5 6;work 0 3 5;day;  ";
    int items = 0;
    for (int length = 0; length < text.length(); length++) {
      String told = text.substring(0, length);
      boolean isWhole = told.endsWith(";");
      int word = 1 + Math.max(Math.max(told.lastIndexOf(' '), told.lastIndexOf(';')), -1);
      String last = told.substring(word);
      boolean isCut = last.matches("[a-z]+") && !last.matches("street|anvil|work|day");
      items += isWhole ? 1 : 0;
      if (told.matches(".*; *")) {
        reads(told, items);
      } else {
        fault(told, isCut ? word : length);
      }
    }
    CHECK.due("items by the end", items, 4);
    reads(text, 4);
    faultBehind("day", 3);
    faultBehind("day  ", 5);
    fault("street", 6);
    fault("street 1", 8);
  }

  /** Promise 6: "how many ITEMS", street with them. */
  private static void itemsAreCounted() {
    reads("street 1;", 1);
    reads("street 1;day;", 2);
    reads("street 1;" + FOUR_ANVILS + "work 3 3 5;day;", 7);
  }

  /** "takes the place of all but IMAGES, THE TEXT, THE FRACTION, STATUS (NOTES, CAME none; nothing to undo)". */
  private static void takesThePlace() {
    for (int i = 0; i < 2; i++) {
      Supplier<AnvilStreet> made = i == 0 ? Twins::some : Twins::full;
      AnvilStreet x = typed(made, "street 7;anvil 1 2 3 4 5;");
      AnvilStreet other = typed(made, "street 7;anvil 1 2 3 4 5;");
      long above = x.part(0);
      long below = x.part(1);
      CHECK.due("read", x.read(), 2);
      int[] counts = {1, 0, 7, 0, 0, 0, 25};
      for (int what = 0; what < 7; what++) CHECK.due("read: count " + what, x.count(what), counts[what]);
      is(x, 0, 1, 2, 3, 4, 5);
      CHECK.due("the fraction, above", x.part(0), above);
      CHECK.due("the fraction, below", x.part(1), below);
      for (int what = 0; what < 3; what++) CHECK.due("status", x.status(what), other.status(what));
      CHECK.due("is", x.is(0), 63);
      CHECK.due("memory", x.memory(0, 0), (1 << 21) - 1);
      CHECK.due("undo", x.undo(), -3);
      for (int image = 0; image < 2; image++) {
        CHECK.due("from", x.from(image), other.from(image));
        CHECK.due("the image stays", x.digest(), other.digest());
      }
      CHECK.due("read again", x.read(), 2);
    }
  }

  /** Promise 6: "-10 less the FAULT: all stays." */
  private static void aFaultLeavesAll() {
    String[] texts = {"", "street 9;" + FOUR_ANVILS + "work 0 0 1;day;x", "day", "street 9;day;day;day"};
    int[] places = {0, 88, 0, 20};
    for (int i = 0; i < texts.length; i++) {
      String text = texts[i];
      for (int j = 0; j < 3; j++) {
        Supplier<AnvilStreet> made = j == 0 ? Twins::none : j == 1 ? Twins::some : Twins::full;
        new Twins(CHECK, () -> typed(made, text)).asked("read of '" + text + "'", x -> x.read(), -10 - places[i]);
      }
    }
  }

  /** "the place of the first byte of the first TOKEN that can not stand there". */
  private static void theFirstFaultIsTold() {
    fault("x y z", 0);
    fault("street 10 x;", 7);
    faultBehind("anvil 6 21 21 21 21;", 6);
    faultBehind("anvil 0 21 x;", 8);
    faultBehind("work 9 9 9;", 5);
    faultBehind("anvil 0 0 0 0 0;work 0 9 9;", 23);
    faultBehind("x;street 1;", 0);
  }
}
