/** Counts answers that are not the due ones, and tells them. */
final class Check {
  private static final int TOLD_AT_MOST = 40;
  private static int wrong = 0;
  private static int asked = 0;
  private static String place = "";

  static void in(String where) {
    place = where;
  }

  static void due(String call, long want, long got) {
    asked++;
    if (want == got) {
      return;
    }
    wrong++;
    if (wrong <= TOLD_AT_MOST) {
      System.out.println(place + ": " + call + " answered " + got + ", due is " + want);
    }
  }

  static void so(String what, boolean is) {
    due(what, 1, is ? 1 : 0);
  }

  static void end() {
    System.out.println(asked + " answers looked at, " + wrong + " not as due");
    if (wrong != 0 || asked == 0) {
      System.exit(1);
    }
  }
}
