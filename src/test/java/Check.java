/** Counts the answers that are not as due, and prints each. */
final class Check {
  private int asked = 0;
  private int wrong = 0;

  void due(String call, long got, long want) {
    asked++;
    if (got != want) {
      wrong++;
      System.out.println(call + " answered " + got + ", due is " + want);
    }
  }

  void holds(String what, boolean so) {
    asked++;
    if (!so) {
      wrong++;
      System.out.println("not so: " + what);
    }
  }

  boolean allWell() {
    return wrong == 0;
  }

  void end() {
    System.out.println(asked + " asked, " + wrong + " wrong");
    if (wrong != 0) {
      System.exit(1);
    }
  }
}
