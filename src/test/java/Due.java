/** Counts the answers that are not as due, and prints each of them. */
final class Due {
  private static int asked = 0;
  private static int wrong = 0;

  private Due() {}

  static void is(String call, long got, long want) {
    asked++;
    if (got != want) {
      wrong++;
      System.out.println(call + " answered " + got + ", due is " + want);
    }
  }

  static void yes(String call, boolean got) {
    is(call, got ? 1 : 0, 1);
  }

  static void no(String call, boolean got) {
    is(call, got ? 1 : 0, 0);
  }

  static int wrong() {
    return wrong;
  }

  static void finish() {
    System.out.println(wrong == 0 ? "all " + asked + " answers are as due" : wrong + " answers are not as due");
    if (wrong != 0) {
      System.exit(1);
    }
  }
}
