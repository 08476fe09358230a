import java.util.ArrayList;
import java.util.Arrays;
import java.util.List;

/**
 * Small objects, each asked every call with every number from one too small to one too large,
 * beside Plain; new ones, and such as were others before and were asked then.
 */
public final class EveryCallTest {
  /** An object is used for 512 calls: some of them make it. */
  private static final int CALLS_EACH = 450;

  public static void main(String[] args) {
    newOnes();
    afterAChange();
    Check.end();
  }

  // ---- objects

  private static List<Call> object(int n, int... maps) {
    List<Call> made = new ArrayList<>();
    made.add(Call.of("points", n));
    for (int map : maps) {
      made.add(Call.of("letter", map));
    }
    return made;
  }

  private static List<Call> machine(int start, int ends, int n, int... maps) {
    List<Call> made = object(n, maps);
    made.add(Call.of("set", 0, start));
    made.add(Call.of("set", 1, ends));
    return made;
  }

  /** So that it knows all that it may keep. */
  private static List<Call> asked(List<Call> made, Call... more) {
    List<Call> all = new ArrayList<>(made);
    all.addAll(Arrays.asList(
        Call.of("elements", 3), Call.of("boxes", 7), Call.of("ideal", 0), Call.of("together", 1, -1),
        Call.of("parting", 0, 0, -1), Call.of("taken", 3), Call.of("least"), Call.of("meanings", 0),
        Call.of("meanings", 1), Call.of("cut", 0, 0), Call.of("cuts"), Call.of("twists")));
    all.addAll(Arrays.asList(more));
    return all;
  }

  private static void newOnes() {
    every("a new object", new ArrayList<>());
    every("one point", object(1));
    every("one point, a letter, an end", machine(0, 1, 1, 0));
    every("two points, all maps", machine(1, 1, 2, 2, 0, 1, 3));
    every("constants", machine(0, 2, 2, 0, 3));
    every("one image", machine(2, 1, 3, Made.map(0, 1, 0), Made.map(0, 1, 1)));
    every("branches", machine(1, 5, 3, Made.map(0, 0, 2), Made.map(0, 1, 0)));
    every("a chain", machine(2, 1, 3, Made.map(0, 0, 1)));
    every("a round", machine(1, 1, 3, Made.turned(1, 3)));
    every("all three", machine(2, 3, 3, Made.turned(1, 3), Made.map(1, 0, 2), Made.map(0, 0, 2)));
    every("a round of four, one joined", machine(3, 9, 4, Made.map(1, 0, 3, 2), Made.map(0, 0, 2, 3)));
    every("five points", machine(4, 10, 5, Made.map(1, 2, 3, 4, 4), Made.map(0, 0, 0, 1, 2)));
    every("six points without letters", machine(5, 33, 6));
    every("six points, a round", machine(5, 9, 6, Made.turned(1, 6)));
    every("six points, two rounds", machine(2, 1, 6, Made.map(1, 2, 0, 4, 3, 5)));
    every("six points, too many", machine(4, 1, 6, Made.ONE_TOO_MANY));
  }

  private static void afterAChange() {
    int turn = Made.turned(1, 3);
    int swap = Made.map(1, 0, 2);
    int join = Made.map(0, 0, 2);
    Call drop = Call.of("drop");
    List<Call> three = machine(2, 3, 3, turn, swap, join);
    every("a letter more", asked(machine(1, 1, 3, turn), Call.of("letter", join)));
    // The last letter solves an equation of the first two that they do not solve themselves.
    every("a solution that is gone", asked(
        object(3, Made.map(1, 2, 2), Made.map(0, 2, 2), 26, swap), drop, drop));
    every("the first letter", asked(machine(1, 1, 3), Call.of("letter", turn)));
    every("a letter less", asked(three, drop));
    every("two letters less", asked(three, drop, drop));
    every("no letter left", asked(three, drop, drop, drop));
    every("another letter", asked(three, drop, Call.of("letter", 0)));
    every("the same letter again", asked(three, drop, Call.of("letter", join)));
    every("the same points again", asked(three, Call.of("points", 3)));
    every("fewer points", asked(three, Call.of("points", 2), Call.of("letter", 2)));
    every("more points", asked(three, Call.of("points", 4), Call.of("letter", Made.map(1, 0, 3, 3))));
    every("another START", asked(three, Call.of("set", 0, 1)));
    every("other ENDS", asked(three, Call.of("set", 1, 4)));
    every("too many, then few", asked(machine(4, 1, 6, Made.ONE_TOO_MANY), drop, drop, drop));
    every("just enough, then few", asked(machine(4, 1, 6, Made.JUST_ENOUGH), drop, drop));
    every("few, then too many", asked(object(6, Made.turned(1, 6), 0), Call.of("letter", 28590),
        Call.of("letter", Made.map(1, 0, 2, 3, 4, 5))));
  }

  // ---- calls

  private static void every(String name, List<Call> making) {
    Check.in(name);
    Plain y = new Plain();
    for (Call call : making) {
      call.ask(y);
    }
    List<Call> calls = callsOf(y);
    for (int first = 0; first < calls.size(); first += CALLS_EACH) {
      PointMaps x = new PointMaps();
      for (Call call : making) {
        call.ask(x);
      }
      for (Call call : calls.subList(first, Math.min(calls.size(), first + CALLS_EACH))) {
        Check.due(call.toString(), call.ask(y), call.ask(x));
      }
    }
  }

  /** All calls that change nothing. */
  private static List<Call> callsOf(Plain y) {
    List<Call> calls = new ArrayList<>();
    int elements = Math.max(1, y.elements(0));
    int boxes = Math.max(1, y.boxes(0));
    one(calls, "elements", -1, 4);
    two(calls, "element", elements, 8);
    two(calls, "word", elements, 4);
    one(calls, "find", -1, y.pow() > 300 ? 60 : y.pow());
    two(calls, "done", elements, elements);
    one(calls, "boxes", -1, 8);
    two(calls, "box", elements, 4);
    two(calls, "about", boxes, 8);
    two(calls, "below", boxes, boxes);
    one(calls, "ideal", -1, elements);
    one(calls, "sort", -1, 7);
    solve(calls, elements);
    int sets = 1 << y.n;
    two(calls, "together", sets, 5);
    one(calls, "lowest", -1, sets);
    calls.add(Call.of("apart"));
    two(calls, "cut", y.n, y.n);
    calls.add(Call.of("cuts"));
    calls.add(Call.of("twists"));
    one(calls, "taken", -1, 41);
    calls.add(Call.of("least"));
    parting(calls, y.n);
    one(calls, "meanings", -1, 2);
    one(calls, "count", -1, 4);
    return calls;
  }

  private static void one(List<Call> calls, String name, int first, int last) {
    for (int a = first; a <= last; a++) {
      calls.add(Call.of(name, a));
    }
  }

  /** Of two numbers, if there are so many of each: from below 0 to one too large. */
  private static void two(List<Call> calls, String name, int many, int manyMore) {
    for (int a = -1; a <= many; a++) {
      for (int b = -2; b <= manyMore; b++) {
        calls.add(Call.of(name, a, b));
      }
    }
  }

  private static void solve(List<Call> calls, int elements) {
    for (int a = -1; a <= elements; a++) {
      for (int b = -1; b <= elements; b++) {
        for (int told = 0; told < 4; told++) {
          calls.add(Call.of("solve", a, b, told / 2, told % 2));
        }
      }
    }
    for (int wrong : new int[] {-1, 2}) {
      calls.add(Call.of("solve", 0, 0, wrong, 0));
      calls.add(Call.of("solve", 0, 0, 0, wrong));
    }
  }

  private static void parting(List<Call> calls, int n) {
    for (int a = -1; a <= n; a++) {
      for (int b = -1; b <= n; b++) {
        for (int i = -2; i <= 5; i++) {
          calls.add(Call.of("parting", a, b, i));
        }
      }
    }
  }
}
