/** Counts of words wrap around at 1000000007: one below it, just it, one above it, and far above. */
public final class WrapTest {
  private static final int MODULUS = 1000000007;

  public static void main(String[] args) {
    belowTheModulus();
    justTheModulusBySeveralEnds();
    justTheModulusAtOneEnd();
    aboveTheModulus();
    powersOfLetters();
    Check.end();
  }

  private static void due(String name, int answer, int length, PointMaps x) {
    Check.due(name + ": taken(" + length + ")", answer, x.taken(length));
    Check.due(name + ": taken(" + length + ") again", answer, x.taken(length));
  }

  private static void belowTheModulus() {
    Check.in("promise 24, taken: one below the modulus");
    due("1000000006 words", MODULUS - 1, 15, Made.machine(0, 31, 6,
        Made.map(1, 2, 2, 4, 1, 4), Made.map(5, 2, 3, 0, 2, 5),
        Made.map(0, 0, 2, 1, 1, 2), Made.map(0, 1, 4, 2, 4, 5)));
    // 6166 times the modulus, one less.
    due("6166000043161 words", MODULUS - 1, 28, Made.machine(0, 2, 6,
        Made.map(1, 2, 0, 0, 1, 5), Made.map(1, 0, 4, 1, 1, 4), Made.map(5, 0, 1, 5, 3, 5)));
  }

  /** 423820679 words to state 0, 166100978 to state 2, 410078350 to state 4. */
  private static PointMaps justTheModulus(int ends) {
    return Made.machine(0, ends, 6,
        Made.map(0, 3, 0, 3, 0, 1), Made.map(5, 4, 4, 3, 5, 1), Made.map(5, 4, 0, 3, 1, 2));
  }

  private static void justTheModulusBySeveralEnds() {
    Check.in("promise 24, taken: just the modulus, by three ends");
    due("423820679 words", 423820679, 21, justTheModulus(1));
    due("166100978 words", 166100978, 21, justTheModulus(4));
    due("410078350 words", 410078350, 21, justTheModulus(16));
    due("589921657 words", 589921657, 21, justTheModulus(5));
    due("1000000007 words", 0, 21, justTheModulus(21));
  }

  /** 3912 times the modulus. */
  private static void justTheModulusAtOneEnd() {
    Check.in("promise 24, taken: just the modulus, at one end");
    due("3912000027384 words", 0, 24, Made.machine(0, 4, 6,
        Made.map(2, 3, 0, 1, 4, 4), Made.map(3, 3, 1, 4, 3, 1),
        Made.map(3, 3, 2, 4, 3, 3), Made.map(0, 0, 1, 4, 3, 5)));
  }

  private static void aboveTheModulus() {
    Check.in("promise 24, taken: one above the modulus");
    // 3 times the modulus, and one.
    due("3000000022 words", 1, 17, Made.machine(0, 32, 6,
        Made.map(5, 3, 2, 2, 4, 3), Made.map(4, 1, 5, 5, 2, 0),
        Made.map(4, 2, 3, 1, 0, 5), Made.map(4, 3, 4, 2, 3, 4)));
    // 67 times the modulus, and one.
    due("67000000470 words", 1, 19, Made.machine(0, 2, 5,
        Made.map(4, 0, 0, 4, 1), Made.map(2, 2, 1, 1, 2),
        Made.map(2, 0, 3, 4, 1), Made.map(3, 0, 1, 0, 1)));
  }

  /** With all points ends each word is taken. */
  private static void powersOfLetters() {
    Check.in("promise 24, taken: each word, by one to four letters");
    for (int many = 0; many <= 4; many++) {
      PointMaps x = Made.machine(0, 63, 6);
      for (int k = 0; k < many; k++) {
        x.letter(Made.turned(k, 6));
      }
      long words = 1;
      for (int length = 0; length <= 40; length++) {
        Check.due(many + " letters, length " + length, words, x.taken(length));
        words = words * many % MODULUS;
      }
    }
  }
}
