import java.util.ArrayList;
import java.util.List;

/** All that an object is: its points, letters, START and ENDS, and some of what is told of them. */
final class Probe {
  /** Some 300 calls, which leave the object without letters. */
  static List<String> of(PointMaps x) {
    List<String> told = new ArrayList<>();
    for (int what = 0; what < 4; what++) {
      told.add("count(" + what + ") = " + x.count(what));
    }
    lookAtElements(x, told);
    lookAtPoints(x, told);
    lookAtLetters(x, told);
    told.add("drop() of none = " + x.drop());
    told.add("elements(0) without letters = " + x.elements(0));
    told.add("letter(0) = " + x.letter(0));
    told.add("points(3) = " + x.points(3));
    return told;
  }

  private static void lookAtElements(PointMaps x, List<String> told) {
    for (int what = 0; what < 4; what++) {
      told.add("elements(" + what + ") = " + x.elements(what));
    }
    for (int what = 0; what < 8; what++) {
      told.add("element(1, " + what + ") = " + x.element(1, what));
      told.add("boxes(" + what + ") = " + x.boxes(what));
      told.add("about(0, " + what + ") = " + x.about(0, what));
    }
    for (int what = 0; what < 4; what++) {
      told.add("box(1, " + what + ") = " + x.box(1, what));
    }
    told.add("word(1, 0) = " + x.word(1, 0));
    told.add("done(1, 1) = " + x.done(1, 1));
    told.add("ideal(1) = " + x.ideal(1));
    told.add("meanings(0) = " + x.meanings(0));
    told.add("meanings(1) = " + x.meanings(1));
  }

  private static void lookAtPoints(PointMaps x, List<String> told) {
    int whole = (1 << x.count(0)) - 1;
    told.add("together(all, -1) = " + x.together(whole, -1));
    told.add("lowest(all) = " + x.lowest(whole));
    told.add("apart() = " + x.apart());
    told.add("cuts() = " + x.cuts());
    told.add("twists() = " + x.twists());
    told.add("taken(3) = " + x.taken(3));
    told.add("least() = " + x.least());
  }

  /** With each letter less again, so that each letter is told by itself. */
  private static void lookAtLetters(PointMaps x, List<String> told) {
    int left = x.count(1);
    for (int k = 0; k < 5 && left >= 0; k++) {
      lookWhereLettersLead(x, told);
      told.add("letters left = " + left);
      left = left > 0 ? x.drop() : -1;
    }
  }

  private static void lookWhereLettersLead(PointMaps x, List<String> told) {
    int n = x.count(0);
    for (int from = 0; from < n; from++) {
      x.set(0, from);
      for (int bit = 0; bit < 3; bit++) {
        x.set(1, pointsWithBit(bit, n));
        told.add("taken(1) from " + from + " by bit " + bit + " = " + x.taken(1));
      }
    }
  }

  /** Point i is told by the bits of i + 1, so that each letter is counted. */
  private static int pointsWithBit(int bit, int n) {
    int set = 0;
    for (int i = 0; i < n; i++) {
      set |= ((i + 1) >> bit & 1) << i;
    }
    return set;
  }

  /** The first that is not the same, or an empty text. */
  static String difference(List<String> due, List<String> got) {
    for (int i = 0; i < Math.min(due.size(), got.size()); i++) {
      if (!due.get(i).equals(got.get(i))) {
        return got.get(i) + ", due is " + due.get(i);
      }
    }
    return due.size() == got.size() ? "" : "more or less is told";
  }

  private Probe() {
  }
}
