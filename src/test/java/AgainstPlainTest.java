/** Many runs of calls, each answer beside that of Plain. */
public final class AgainstPlainTest {
  private static final int RUNS = 600;
  private static final int CALLS = 512;
  private static final int[] WILD = {
    -2147483648, -1000, -10, -9, -2, -1, 7, 8, 63, 64, 1499, 1500, 1501, 46655, 46656, 2147483647};

  private static long seed = 20261118;
  private static PointMaps x;
  private static Plain y;

  public static void main(String[] args) {
    for (int run = 0; run < RUNS; run++) {
      Check.in("run " + run);
      x = new PointMaps();
      y = new Plain();
      // Large ones are dear for Plain, so most runs are small.
      int most = run % 30 == 0 ? 6 : run % 3 == 0 ? 4 : 3;
      for (int call = 0; call < CALLS; call++) {
        if (below(100) < 12) {
          change(most);
        } else {
          askOne();
        }
      }
    }
    Check.end();
  }

  private static void ask(String name, int... numbers) {
    Call call = Call.of(name, numbers);
    int due = call.ask(y);
    Check.due(call.toString(), due, call.ask(x));
  }

  /** A plain chain of numbers, the same each time. */
  private static int below(int bound) {
    seed = seed * 6364136223846793005L + 1442695040888963407L;
    return (int) ((seed >>> 33) % bound);
  }

  private static int some(int bound) {
    return below(40) == 0 ? WILD[below(WILD.length)] : below(Math.max(1, bound));
  }

  private static int orOneBeyond(int many) {
    return some(many < 0 ? 1600 : many + (below(20) == 0 ? 1 : 0));
  }

  private static int anElement() {
    return orOneBeyond(y.elements(0));
  }

  private static int aBox() {
    return orOneBeyond(y.boxes(0));
  }

  private static int aMap() {
    if (below(3) == 0) {
      return some(y.pow());
    }
    // Maps that move few points make neither too many elements nor too few.
    int number = 0;
    for (int i = y.n - 1; i >= 0; i--) {
      number = number * y.n + (below(2) == 0 ? i : below(y.n));
    }
    return number;
  }

  private static void change(int most) {
    switch (below(12)) {
      case 0: ask("points", below(9) == 0 ? some(9) : 1 + below(most)); break;
      case 1: case 2: ask("drop"); break;
      case 3: case 4: ask("set", 0, some(y.n)); break;
      case 5: case 6: ask("set", some(3), some(1 << y.n)); break;
      default: ask("letter", aMap()); break;
    }
  }

  private static void askOne() {
    switch (below(25)) {
      case 0: ask("elements", some(4)); break;
      case 1: case 2: ask("element", anElement(), some(8)); break;
      case 3: ask("word", anElement(), some(7) - 1); break;
      case 4: ask("find", some(y.pow())); break;
      case 5: ask("done", anElement(), anElement()); break;
      case 6: ask("boxes", some(8)); break;
      case 7: ask("box", anElement(), some(4)); break;
      case 8: case 9: ask("about", aBox(), some(8)); break;
      case 10: ask("below", aBox(), aBox()); break;
      case 11: ask("ideal", anElement()); break;
      case 12: ask("sort", some(7)); break;
      case 13: ask("solve", anElement(), anElement(), some(2), some(2)); break;
      case 14: ask("together", some(1 << y.n), some(4) - 1); break;
      case 15: ask("lowest", some(1 << y.n)); break;
      case 16: ask("apart"); break;
      case 17: ask("cut", some(y.n), some(y.n)); break;
      case 18: ask("cuts"); break;
      case 19: ask("twists"); break;
      case 20: ask("taken", some(42)); break;
      case 21: ask("least"); break;
      case 22: ask("parting", some(y.n), some(y.n), some(4) - 1); break;
      case 23: ask("meanings", some(2)); break;
      default: ask("count", some(4)); break;
    }
  }
}
