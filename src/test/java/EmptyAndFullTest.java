import java.util.List;
import java.util.function.IntUnaryOperator;
import java.util.function.Supplier;

/**
 * The empty and the full case of each promise: no LETTERS, no ELEMENT but the one that does
 * nothing, four LETTERS (the fourth alone does something), just 1500 ELEMENTS, and more.
 */
public final class EmptyAndFullTest {
  private static final int BAD = -1, FULL = -3, SPENT = -5, NONE = -9;

  /** More than 1500: by one, by a few, all maps of five points and of six. */
  private static final List<Supplier<PointMaps>> TOO_MANY = List.of(
    () -> Made.of(6, Made.ONE_TOO_MANY),
    () -> Made.of(6, 45530, 5056, 16869, Made.map(1, 0, 2, 3, 4, 5)),
    () -> Made.of(5, Made.turned(1, 5), Made.map(1, 0, 2, 3, 4), Made.map(0, 0, 2, 3, 4)),
    () -> Made.of(6, Made.turned(1, 6), Made.map(1, 0, 2, 3, 4, 5), Made.map(0, 0, 2, 3, 4, 5)));

  private static final int[] FIRST_LETTERS = {28590, 45530, Made.turned(1, 5), Made.turned(1, 6)};

  public static void main(String[] args) {
    noLetters();
    lettersThatDoNothing();
    onePoint();
    oneElementAlone("no letters", () -> Made.of(3));
    oneElementAlone("a letter that does nothing", () -> Made.of(3, 21));
    oneElementAlone("four of them", () -> Made.of(3, 21, 21, 21, 21));
    fourthLetterTurns();
    fourthLetterJoins();
    fourLettersAreFull();
    justEnough();
    justEnoughInBoxes();
    justEnoughInManyBoxes();
    justEnoughByOneLetterMore();
    tooMany();
    tooManyIsForgotten();
    tooManyIsNotAsked();
    lastCall();
    Check.end();
  }

  // ---- no letters

  private static void noLetters() {
    for (int n = 1; n <= 6; n++) {
      Check.in("no letters, n " + n);
      PointMaps x = Made.machine(n - 1, 1 << (n - 1), n);
      int whole = (1 << n) - 1;
      Check.due("count(1), none at first", 0, x.count(1));
      Check.due("drop()", BAD, x.drop());
      Check.due("together(all, -1)", n == 1 ? 0 : NONE, x.together(whole, -1));
      Check.due("lowest(all)", n, x.lowest(whole));
      Check.due("apart()", n * (n - 1) / 2, x.apart());
      Check.due("cut() of one point", Made.nothing(n), x.cut(n - 1, n - 1));
      Check.due("cuts()", new int[] {0, 1, 2, 5, 15, 52, 203}[n], x.cuts());
      Check.due("twists()", new int[] {0, 1, 2, 6, 24, 120, 720}[n], x.twists());
      Check.due("taken(0)", 1, x.taken(0));
      Check.due("taken(1)", 0, x.taken(1));
      Check.due("taken(40)", 0, x.taken(40));
      Check.due("least()", 1, x.least());
      Check.due("parting of the first and the last", n == 1 ? NONE : 0, x.parting(0, n - 1, -1));
      Check.due("letter(), the first", 0, x.letter(0));
    }
    PointMaps x = new PointMaps();
    Check.in("no letters, no ends");
    Check.due("taken(0)", 0, x.taken(0));
    Check.due("parting of two", NONE, x.parting(0, 1, -1));
    Check.due("cut of two", Made.map(0, 1, 1), x.cut(1, 2));
  }

  private static void lettersThatDoNothing() {
    Check.in("four letters that do nothing");
    PointMaps x = Made.machine(0, 1, 3, 21, 21, 21, 21);
    Check.due("count(1)", 4, x.count(1));
    Check.due("together(7, -1)", NONE, x.together(7, -1));
    Check.due("together(2, -1)", 0, x.together(2, -1));
    Check.due("lowest(7)", 3, x.lowest(7));
    Check.due("apart()", 3, x.apart());
    Check.due("cuts()", 5, x.cuts());
    Check.due("twists()", 6, x.twists());
    Check.due("taken(1)", 4, x.taken(1));
    Check.due("taken(40)", 496641140, x.taken(40));
    Check.due("least()", 1, x.least());
    Check.due("parting of unlike ones", 0, x.parting(0, 1, -1));
    Check.due("parting of alike ones", NONE, x.parting(1, 2, -1));
    Check.due("letter(21)", FULL, x.letter(21));
    Check.due("drop()", 3, x.drop());
  }

  private static void onePoint() {
    Check.in("one point, the only letter that there is");
    PointMaps x = Made.of(1, 0);
    Check.due("elements(0)", 1, x.elements(0));
    Check.due("element(0, 0)", 0, x.element(0, 0));
    Check.due("element(0, 1), RANK", 1, x.element(0, 1));
    Check.due("find(0)", 0, x.find(0));
    Check.due("about(0, 6), RANK", 1, x.about(0, 6));
    Check.due("together(1, -1)", 0, x.together(1, -1));
    Check.due("lowest(1)", 1, x.lowest(1));
    Check.due("apart()", 0, x.apart());
    Check.due("cut(0, 0)", 0, x.cut(0, 0));
    Check.due("cuts()", 1, x.cuts());
    Check.due("twists()", 1, x.twists());
    Check.due("parting(0, 0, -1)", NONE, x.parting(0, 0, -1));
    Check.due("set(1, 1)", 0, x.set(1, 1));
    Check.due("taken(40)", 1, x.taken(40));
    Check.due("least()", 1, x.least());
    Check.due("meanings(0)", 1, x.meanings(0));
  }

  /** Three points; whatever letters there are, they do nothing. */
  private static void oneElementAlone(String of, Supplier<PointMaps> made) {
    Check.in("no element but the one that does nothing: " + of);
    PointMaps x = made.get();
    dueAll("elements", x::elements, 1, 1, 1, 1);
    dueAll("element(0)", what -> made.get().element(0, what), 21, 3, 21, 0, 1, 0, 1, 0);
    dueAll("boxes", x::boxes, 1, 1, 1, 1, 1, 1, 0, 1);
    dueAll("box(0)", what -> made.get().box(0, what), 0, 0, 0, 0);
    dueAll("about(0)", what -> made.get().about(0, what), 1, 1, 1, 1, 1, 1, 3, 0);
    dueAll("sort", x::sort, 1, 1, 1, 1, 1, 1, 1);
    dueAll("meanings", x::meanings, 1, 1);
    Check.due("element(1, 0)", BAD, x.element(1, 0));
    Check.due("word(0, 0)", BAD, x.word(0, 0));
    Check.due("word(1, 0)", BAD, x.word(1, 0));
    Check.due("find(21)", 0, x.find(21));
    Check.due("find(0)", NONE, x.find(0));
    Check.due("done(0, 0)", 0, x.done(0, 0));
    Check.due("done(0, 1)", BAD, x.done(0, 1));
    Check.due("box(1, 0)", BAD, x.box(1, 0));
    Check.due("about(1, 0)", BAD, x.about(1, 0));
    Check.due("below(0, 0)", 1, x.below(0, 0));
    Check.due("below(0, 1)", BAD, x.below(0, 1));
    Check.due("ideal(0)", 1, x.ideal(0));
    Check.due("ideal(1)", BAD, x.ideal(1));
    for (int behind = 0; behind < 2; behind++) {
      Check.due("solve(0, 0, " + behind + ", 0)", 1, x.solve(0, 0, behind, 0));
      Check.due("solve(0, 0, " + behind + ", 1)", 0, x.solve(0, 0, behind, 1));
      Check.due("solve(0, 1, " + behind + ", 0)", BAD, x.solve(0, 1, behind, 0));
    }
  }

  private static void dueAll(String call, IntUnaryOperator asked, int... due) {
    for (int what = 0; what < due.length; what++) {
      Check.due(call + ", what " + what, due[what], asked.applyAsInt(what));
    }
    Check.due(call + ", what " + due.length, BAD, asked.applyAsInt(due.length));
  }

  // ---- four letters

  private static void fourthLetterTurns() {
    Check.in("four letters, the fourth turns");
    PointMaps x = Made.machine(0, 1, 3, 21, 21, 21, Made.turned(1, 3));
    dueAll("elements", x::elements, 3, 1, 3, 3);
    dueAll("boxes", x::boxes, 1, 1, 1, 1, 1, 1, 0, 3);
    dueAll("sort", x::sort, 1, 0, 0, 0, 1, 1, 1);
    dueAll("meanings", x::meanings, 3, 0);
    Check.due("element(2, 3)", 2, x.element(2, 3));
    Check.due("word(2, 0)", 3, x.word(2, 0));
    Check.due("word(2, 1)", 3, x.word(2, 1));
    Check.due("find(round)", 1, x.find(Made.turned(1, 3)));
    Check.due("done(1, 2)", 0, x.done(1, 2));
    Check.due("solve(1, 0, 1, 1)", 2, x.solve(1, 0, 1, 1));
    Check.due("cut(0, 1)", 0, x.cut(0, 1));
    Check.due("cuts()", 2, x.cuts());
    Check.due("twists()", 3, x.twists());
    Check.due("taken(1)", 3, x.taken(1));
    Check.due("taken(3), none turns or all do", 28, x.taken(3));
    Check.due("least()", 3, x.least());
    Check.due("parting(0, 1, -1)", 0, x.parting(0, 1, -1));
    Check.due("parting(1, 2, -1)", 1, x.parting(1, 2, -1));
    Check.due("parting(1, 2, 0)", 3, x.parting(1, 2, 0));
  }

  private static void fourthLetterJoins() {
    Check.in("four letters, the fourth joins");
    PointMaps x = Made.machine(1, 1, 3, 21, 21, 21, 0);
    dueAll("elements", x::elements, 2, 2, 2, 1);
    dueAll("boxes", x::boxes, 2, 2, 2, 2, 2, 2, 1, 1);
    dueAll("sort", x::sort, 1, 1, 1, 1, 1, 1, 0);
    Check.due("box(1, 0)", 1, x.box(1, 0));
    Check.due("about(1, 7)", 1, x.about(1, 7));
    Check.due("below(1, 0)", 1, x.below(1, 0));
    Check.due("below(0, 1)", 0, x.below(0, 1));
    Check.due("ideal(0)", 2, x.ideal(0));
    Check.due("together(7, -1)", 1, x.together(7, -1));
    Check.due("together(7, 0)", 3, x.together(7, 0));
    Check.due("lowest(7)", 1, x.lowest(7));
    Check.due("apart()", 0, x.apart());
    Check.due("cut(1, 2)", Made.map(0, 1, 1), x.cut(1, 2));
    Check.due("twists()", 2, x.twists());
    Check.due("least()", 2, x.least());
    Check.due("meanings(0)", 2, x.meanings(0));
  }

  private static void fourLettersAreFull() {
    Check.in("four letters are full");
    PointMaps x = new PointMaps();
    for (int k = 0; k < 4; k++) {
      Check.due("letter " + k, k, x.letter(7 + k));
      Check.due("count(1) behind letter " + k, k + 1, x.count(1));
    }
    Check.due("the fifth", FULL, x.letter(7));
    for (int k = 3; k >= 0; k--) {
      Check.due("drop()", k, x.drop());
      Check.due("count(1) behind drop", k, x.count(1));
    }
    Check.due("drop() of none", BAD, x.drop());
    for (int k = 0; k < 4; k++) {
      Check.due("letter " + k + " again", k, x.letter(7));
    }
    x.points(3);
    Check.due("none behind points", 0, x.count(1));
    Check.due("the first again", 0, x.letter(7));
  }

  // ---- just 1500 elements

  private static void justEnough() {
    Check.in("just 1500 elements");
    PointMaps x = Made.enough();
    dueAll("elements", x::elements, 1500, 175, 1, 4);
    dueAll("element(1499)", what -> Made.enough().element(1499, what), 7691, 3, 38922, 17, 0, 1, 2, 1156);
    Check.due("element(1500, 0)", BAD, x.element(1500, 0));
    int[] word = {1, 0, 1, 0, 1, 1, 1, 2, 1, 1, 0, 1, 1, 0, 1, 1, 1};
    for (int i = 0; i < word.length; i++) {
      Check.due("word(1499, " + i + ")", word[i], x.word(1499, i));
    }
    Check.due("word(1499, 17)", BAD, x.word(1499, 17));
    Check.due("word(1500, 0)", BAD, x.word(1500, 0));
    Check.due("find(7691)", 1499, x.find(7691));
    Check.due("done(1499, 1499)", 1156, x.done(1499, 1499));
    Check.due("done(1499, 1)", 1463, x.done(1499, 1));
    Check.due("done(1, 1499)", 1470, x.done(1, 1499));
    Check.due("done(1500, 0)", BAD, x.done(1500, 0));
    Check.due("solve(0, 1499, 1, 1)", 1499, x.solve(0, 1499, 1, 1));
    Check.due("solve(0, 1499, 0, 0)", 1, x.solve(0, 1499, 0, 0));
    Check.due("solve(1499, 1499, 1, 0)", 7, x.solve(1499, 1499, 1, 0));
    Check.due("solve(1500, 0, 1, 0)", BAD, x.solve(1500, 0, 1, 0));
    x.set(1, 1);
    dueAll("meanings, all unlike", x::meanings, 1500, 0);
  }

  private static void justEnoughInBoxes() {
    Check.in("just 1500 elements in boxes");
    PointMaps x = Made.enough();
    dueAll("boxes", x::boxes, 11, 200, 41, 547, 6, 175, 9, 6);
    dueAll("box(1499)", what -> Made.enough().box(1499, what), 4, 111, 39, 542);
    dueAll("about(10)", what -> Made.enough().about(10, what), 72, 72, 1, 72, 0, 0, 3, 140);
    dueAll("sort", x::sort, 0, 0, 0, 0, 0, 0, 0);
    Check.due("box(1500, 0)", BAD, x.box(1500, 0));
    Check.due("about(11, 0)", BAD, x.about(11, 0));
    Check.due("below(10, 0)", 1, x.below(10, 0));
    Check.due("below(0, 10)", 0, x.below(0, 10));
    Check.due("below(9, 10)", 1, x.below(9, 10));
    Check.due("ideal(0)", 1500, x.ideal(0));
    Check.due("ideal(1499)", 1410, x.ideal(1499));
    Check.due("ideal(1500)", BAD, x.ideal(1500));
  }

  private static void justEnoughInManyBoxes() {
    Check.in("just 1500 elements by four letters, in many boxes");
    PointMaps x = Made.of(6, 44616, 42156, 33925, 43236);
    dueAll("elements", x::elements, 1500, 139, 1, 3);
    dueAll("boxes", x::boxes, 232, 604, 484, 1169, 8, 139, 66, 4);
    dueAll("box(1499)", what -> x.box(1499, what), 67, 603, 113, 1168);
    dueAll("about(231)", what -> x.about(231, what), 1, 1, 1, 1, 0, 0, 3, 1497);
    Check.due("about(232, 0)", BAD, x.about(232, 0));
    Check.due("below(231, 0)", 1, x.below(231, 0));
    Check.due("below(0, 231)", 0, x.below(0, 231));
    Check.due("below(66, 231)", 1, x.below(66, 231));
    Check.due("below(232, 0)", BAD, x.below(232, 0));
    Check.due("ideal(1499)", 604, x.ideal(1499));
  }

  private static void justEnoughByOneLetterMore() {
    Check.in("just 1500 elements, and one letter more");
    PointMaps x = Made.enough();
    x.letter(Made.nothing(6));
    Check.due("a letter that does nothing more", 1500, x.elements(0));
    Check.due("boxes(3)", 547, x.boxes(3));
    x.drop();
    x.letter(7691);
    Check.due("a letter that is the last element", 1500, x.elements(0));
    Check.due("its word is shorter now", 1, x.element(x.find(7691), 3));
    Check.due("boxes(3)", 547, x.boxes(3));
    x.drop();
    x.letter(Made.map(1, 0, 2, 3, 4, 5));
    Check.due("one that is new", SPENT, x.elements(0));
    x.drop();
    Check.due("without it", 1500, x.elements(0));
  }

  // ---- more than 1500

  private static void tooMany() {
    for (int of = 0; of < TOO_MANY.size(); of++) {
      Check.in("more than 1500 elements, object " + of);
      PointMaps x = TOO_MANY.get(of).get();
      Check.due("elements(0)", SPENT, x.elements(0));
      Check.due("element(0, 0)", SPENT, x.element(0, 0));
      Check.due("word(1, 0)", SPENT, x.word(1, 0));
      Check.due("find(0)", SPENT, x.find(0));
      Check.due("done(0, 0)", SPENT, x.done(0, 0));
      Check.due("boxes(0)", SPENT, x.boxes(0));
      Check.due("box(0, 0)", SPENT, x.box(0, 0));
      Check.due("about(0, 0)", SPENT, x.about(0, 0));
      Check.due("below(0, 0)", SPENT, x.below(0, 0));
      Check.due("ideal(0)", SPENT, x.ideal(0));
      Check.due("sort(0)", SPENT, x.sort(0));
      Check.due("solve(0, 0, 0, 0)", SPENT, x.solve(0, 0, 0, 0));
      Check.due("meanings(0)", SPENT, x.meanings(0));
    }
  }

  private static void tooManyIsForgotten() {
    for (int of = 0; of < TOO_MANY.size(); of++) {
      Check.in("few enough behind more than 1500, object " + of);
      PointMaps x = TOO_MANY.get(of).get();
      x.elements(0);
      x.boxes(0);
      int left = x.count(1);
      for (int k = 1; k < left; k++) {
        x.drop();
      }
      PointMaps twin = Made.of(x.count(0), FIRST_LETTERS[of]);
      String difference = Probe.difference(Probe.of(twin), Probe.of(x));
      Check.so("all is told of the first letter again: " + difference, difference.isEmpty());
      PointMaps other = TOO_MANY.get(of).get();
      other.elements(0);
      other.points(3);
      difference = Probe.difference(Probe.of(new PointMaps()), Probe.of(other));
      Check.so("all is told behind points again: " + difference, difference.isEmpty());
    }
  }

  /** What needs no elements is told all the same. */
  private static void tooManyIsNotAsked() {
    Check.in("more than 1500 elements, never SPENT");
    PointMaps x = Made.tooMany();
    x.elements(0);
    Check.due("together(63, -1)", 7, x.together(63, -1));
    int[] word = {0, 0, 2, 2, 1, 0, 1};
    for (int i = 0; i < word.length; i++) {
      Check.due("together(63, " + i + ")", word[i], x.together(63, i));
    }
    Check.due("lowest(63)", 1, x.lowest(63));
    Check.due("apart()", 0, x.apart());
    Check.due("cut(0, 1)", 5184, x.cut(0, 1));
    Check.due("cuts()", 3, x.cuts());
    Check.due("twists()", 1, x.twists());
    Check.due("taken(40)", 583085849, x.taken(40));
    Check.due("least()", 6, x.least());
    Check.due("parting(0, 1, -1)", 0, x.parting(0, 1, -1));
    Check.due("set(0, 0)", 4, x.set(0, 0));
    Check.due("set(1, 2)", 1, x.set(1, 2));
    Check.due("count(1)", 4, x.count(1));
    Check.due("drop()", 3, x.drop());
    Check.due("letter(0)", 3, x.letter(0));
    Check.due("points(6)", 6, x.points(6));
  }

  private static void lastCall() {
    Check.in("an object is used for 512 calls");
    PointMaps x = new PointMaps();
    for (int call = 1; call <= 510; call++) {
      Check.due("call " + call, call == 1 ? 3 : call % 6 + 1, x.points((call + 1) % 6 + 1));
    }
    Check.due("call 511", 0, x.letter(0));
    Check.due("call 512", 2, x.elements(0));
  }
}
