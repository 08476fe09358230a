import java.util.function.Supplier;

/**
 * Each number that a call is told: the least and the greatest that there is are answered, one too
 * small and one too large (and those without an end) are BAD, and nothing changes by them.
 */
public final class NumbersTest {
  private static final int BAD = -1, NONE = -9;

  /** A call with one number left open. */
  private interface Call {
    int ask(PointMaps x, int number);
  }

  public static void main(String[] args) {
    points();
    letter();
    elements();
    element();
    word();
    find();
    done();
    boxes();
    box();
    about();
    below();
    ideal();
    sort();
    solve();
    together();
    lowest();
    cut();
    set();
    taken();
    parting();
    meanings();
    count();
    Check.end();
  }

  private static int[] at(int number, int answer) {
    return new int[] {number, answer};
  }

  private static void number(String name, Supplier<PointMaps> made, Call call, int[] least, int[] greatest) {
    dueAt(name + ", the least", made, call, least);
    dueAt(name + ", the greatest", made, call, greatest);
    refused(name + ", one too small", made, call, least[0] - 1);
    refused(name + ", one too large", made, call, greatest[0] + 1);
    refused(name + ", far too small", made, call, Made.LEAST_INT);
    refused(name + ", far too large", made, call, Made.GREATEST_INT);
  }

  private static void dueAt(String name, Supplier<PointMaps> made, Call call, int[] due) {
    String told = name + ": " + due[0];
    Check.due(told, due[1], call.ask(made.get(), due[0]));
    Check.due(told + ", asked before", due[1], call.ask(Made.asked(made.get()), due[0]));
  }

  private static void refused(String name, Supplier<PointMaps> made, Call call, int number) {
    Refused.due(name + ": " + number, made, x -> call.ask(x, number), BAD);
  }

  // ---- points, letters

  private static void points() {
    Check.in("promise 2, points");
    number("n, behind a new object", PointMaps::new, PointMaps::points, at(1, 3), at(6, 3));
    for (int n = 1; n <= 6; n++) {
      int had = n;
      number("n, behind " + n, () -> Made.some(had), PointMaps::points, at(1, n), at(6, n));
    }
    Check.due("how many there are behind the least", 1, Made.of(1).count(0));
    Check.due("how many there are behind the greatest", 6, Made.of(6).count(0));
  }

  private static void letter() {
    Check.in("promise 3, letter");
    number("map, a new object", PointMaps::new, PointMaps::letter, at(0, 0), at(26, 0));
    for (int n = 1; n <= 6; n++) {
      int points = n;
      int greatest = Made.power(n, n) - 1;
      number("map, n " + n, () -> Made.some(points), PointMaps::letter, at(0, 2), at(greatest, 2));
      dueLetter("the least map, n " + n, n, 0, 0);
      dueLetter("the greatest map, n " + n, n, greatest, n - 1);
    }
  }

  /** The map takes each point to the same one. */
  private static void dueLetter(String name, int n, int map, int to) {
    PointMaps x = Made.of(n, map);
    for (int from = 0; from < n; from++) {
      x.set(0, from);
      x.set(1, 1 << to);
      Check.due(name + ": goes from " + from + " to " + to, 1, x.taken(1));
    }
  }

  private static void elements() {
    Check.in("promise 5, elements");
    number("what", Made::ofTwo, PointMaps::elements, at(0, 4), at(3, 2));
    number("what, too many", Made::tooMany, PointMaps::elements, at(0, PointMaps.SPENT), at(3, PointMaps.SPENT));
  }

  private static void element() {
    Check.in("promise 6, element");
    number("e", Made::ofTwo, (x, e) -> x.element(e, 0), at(0, 2), at(3, 3));
    number("e, no letters", PointMaps::new, (x, e) -> x.element(e, 0), at(0, 21), at(0, 21));
    number("e, just 1500", Made::enough, (x, e) -> x.element(e, 0), at(0, 44790), at(1499, 7691));
    number("what", Made::ofTwo, (x, what) -> x.element(3, what), at(0, 3), at(7, 3));
    number("what, too many", Made::tooMany, (x, what) -> x.element(0, what),
        at(0, PointMaps.SPENT), at(7, PointMaps.SPENT));
  }

  private static void word() {
    Check.in("promise 7, word");
    // Element 0 is there, but its WORD is empty: it has no LETTER 0.
    number("e", Made::ofTwo, (x, e) -> x.word(e, 0), at(1, 0), at(3, 1));
    number("e, just 1500", Made::enough, (x, e) -> x.word(e, 0), at(1, 0), at(1499, 1));
    number("i of one letter", Made::ofTwo, (x, i) -> x.word(2, i), at(0, 1), at(0, 1));
    number("i of two letters", Made::ofTwo, (x, i) -> x.word(3, i), at(0, 1), at(1, 0));
    number("i of 17 letters", Made::enough, (x, i) -> x.word(1499, i), at(0, 1), at(16, 1));
    Refused.due("i of no letters: -1", Made::ofTwo, x -> x.word(0, -1), BAD);
    Refused.due("i of no letters: 0", Made::ofTwo, x -> x.word(0, 0), BAD);
    Refused.due("i of no letters: 1", Made::ofTwo, x -> x.word(0, 1), BAD);
  }

  private static void find() {
    Check.in("promise 8, find");
    for (int n = 1; n <= 6; n++) {
      int points = n;
      int greatest = Made.power(n, n) - 1;
      number("map, n " + n, () -> Made.of(points, 0, greatest), PointMaps::find,
          at(0, n == 1 ? 0 : 1), at(greatest, n == 1 ? 0 : 2));
      number("map, n " + n + ", neither is there", () -> Made.of(points), PointMaps::find,
          at(0, n == 1 ? 0 : NONE), at(greatest, n == 1 ? 0 : NONE));
    }
    number("map, too many", Made::tooMany, PointMaps::find, at(0, PointMaps.SPENT), at(46655, PointMaps.SPENT));
  }

  private static void done() {
    Check.in("promise 9, done");
    number("a", Made::ofTwo, (x, a) -> x.done(a, 1), at(0, 1), at(3, 2));
    number("b", Made::ofTwo, (x, b) -> x.done(1, b), at(0, 1), at(3, 3));
    number("a, no letters", PointMaps::new, (x, a) -> x.done(a, 0), at(0, 0), at(0, 0));
    number("b, no letters", PointMaps::new, (x, b) -> x.done(0, b), at(0, 0), at(0, 0));
    number("a, just 1500", Made::enough, (x, a) -> x.done(a, 1), at(0, 1), at(1499, 1463));
    number("b, just 1500", Made::enough, (x, b) -> x.done(1, b), at(0, 1), at(1499, 1470));
  }

  // ---- boxes

  private static void boxes() {
    Check.in("promise 10, boxes");
    number("what", Made::ofTwo, PointMaps::boxes, at(0, 2), at(7, 2));
    number("what, too many", Made::tooMany, PointMaps::boxes, at(0, PointMaps.SPENT), at(7, PointMaps.SPENT));
  }

  private static void box() {
    Check.in("promise 11, box");
    number("e", Made::ofTwo, (x, e) -> x.box(e, 2), at(0, 0), at(3, 2));
    number("e, no letters", PointMaps::new, (x, e) -> x.box(e, 0), at(0, 0), at(0, 0));
    number("e, just 1500", Made::enough, (x, e) -> x.box(e, 3), at(0, 0), at(1499, 542));
    number("what", Made::ofTwo, (x, what) -> x.box(3, what), at(0, 1), at(3, 2));
    number("what, too many", Made::tooMany, (x, what) -> x.box(0, what),
        at(0, PointMaps.SPENT), at(3, PointMaps.SPENT));
  }

  private static void about() {
    Check.in("promise 12, about");
    number("i", Made::ofTwo, (x, i) -> x.about(i, 7), at(0, 0), at(1, 2));
    number("i, no letters", PointMaps::new, (x, i) -> x.about(i, 6), at(0, 3), at(0, 3));
    number("i, just 1500", Made::enough, (x, i) -> x.about(i, 7), at(0, 0), at(10, 140));
    number("what", Made::ofTwo, (x, what) -> x.about(1, what), at(0, 2), at(7, 2));
    number("what, too many", Made::tooMany, (x, what) -> x.about(0, what),
        at(0, PointMaps.SPENT), at(7, PointMaps.SPENT));
  }

  private static void below() {
    Check.in("promise 13, below");
    number("i", Made::ofChain, (x, i) -> x.below(i, 1), at(0, 0), at(2, 1));
    number("j", Made::ofChain, (x, j) -> x.below(1, j), at(0, 1), at(2, 0));
    number("i, no letters", PointMaps::new, (x, i) -> x.below(i, 0), at(0, 1), at(0, 1));
    number("j, no letters", PointMaps::new, (x, j) -> x.below(0, j), at(0, 1), at(0, 1));
    number("i, just 1500", Made::enough, (x, i) -> x.below(i, 0), at(0, 1), at(10, 1));
    number("j, just 1500", Made::enough, (x, j) -> x.below(0, j), at(0, 1), at(10, 0));
  }

  private static void ideal() {
    Check.in("promise 14, ideal");
    number("e", Made::ofBranches, PointMaps::ideal, at(0, 4), at(3, 1));
    number("e, no letters", PointMaps::new, PointMaps::ideal, at(0, 1), at(0, 1));
    number("e, just 1500", Made::enough, PointMaps::ideal, at(0, 1500), at(1499, 1410));
  }

  private static void sort() {
    Check.in("promise 15, sort");
    number("what", Made::ofRound, PointMaps::sort, at(0, 1), at(6, 1));
    number("what, none of both", Made::ofTwo, PointMaps::sort, at(0, 0), at(6, 0));
    number("what, too many", Made::tooMany, PointMaps::sort, at(0, PointMaps.SPENT), at(6, PointMaps.SPENT));
  }

  private static void solve() {
    Check.in("promise 16, solve");
    number("a", Made::ofTwo, (x, a) -> x.solve(a, 2, 1, 1), at(0, 2), at(3, 1));
    number("b", Made::ofTwo, (x, b) -> x.solve(1, b, 1, 1), at(0, 1), at(3, 3));
    number("a, no letters", PointMaps::new, (x, a) -> x.solve(a, 0, 1, 0), at(0, 1), at(0, 1));
    number("b, no letters", PointMaps::new, (x, b) -> x.solve(0, b, 1, 0), at(0, 1), at(0, 1));
    number("a, just 1500", Made::enough, (x, a) -> x.solve(a, 1499, 1, 1), at(0, 1499), at(1499, 0));
    number("b, just 1500", Made::enough, (x, b) -> x.solve(0, b, 0, 1), at(0, 0), at(1499, 1499));
    number("behind", Made::ofTwo, (x, behind) -> x.solve(1, 2, behind, 1), at(0, 3), at(1, 2));
    number("what", Made::ofTwo, (x, what) -> x.solve(1, 2, 0, what), at(0, 1), at(1, 3));
    number("behind, too many", Made::tooMany, (x, behind) -> x.solve(0, 0, behind, 0),
        at(0, PointMaps.SPENT), at(1, PointMaps.SPENT));
    number("what, too many", Made::tooMany, (x, what) -> x.solve(0, 0, 0, what),
        at(0, PointMaps.SPENT), at(1, PointMaps.SPENT));
  }

  // ---- sets of points

  private static void together() {
    Check.in("promise 17, together");
    for (int n = 1; n <= 6; n++) {
      int points = n;
      int whole = (1 << n) - 1;
      number("set, n " + n, () -> Made.some(points), (x, set) -> x.together(set, -1),
          at(1, 0), at(whole, n == 1 ? 0 : 1));
      number("set, none comes to one, n " + n, () -> Made.of(points), (x, set) -> x.together(set, -1),
          at(1, 0), at(whole, n == 1 ? 0 : NONE));
    }
    number("i of no letters", () -> Made.some(3), (x, i) -> x.together(4, i), at(-1, 0), at(-1, 0));
    number("i of one letter", () -> Made.some(3), (x, i) -> x.together(7, i), at(-1, 1), at(0, 1));
    number("i of nine letters", () -> Made.of(4, Made.turned(1, 4), Made.map(0, 1, 2, 0)),
        (x, i) -> x.together(15, i), at(-1, 9), at(8, 1));
    number("i of NONE", Made::ofRound, (x, i) -> x.together(7, i), at(-1, NONE), at(-1, NONE));
  }

  private static void lowest() {
    Check.in("promise 18, lowest");
    for (int n = 1; n <= 6; n++) {
      int points = n;
      int whole = (1 << n) - 1;
      number("set, n " + n, () -> Made.some(points), PointMaps::lowest, at(0, 0), at(whole, 1));
      number("set, no letters, n " + n, () -> Made.of(points), PointMaps::lowest, at(0, 0), at(whole, n));
    }
  }

  private static void cut() {
    Check.in("promise 20, cut");
    for (int n = 1; n <= 6; n++) {
      int points = n;
      int last = n - 1;
      int alone = Made.nothing(n);
      int joined = alone - last * Made.power(n, last);
      Supplier<PointMaps> made = () -> Made.of(points);
      number("a, n " + n, made, (x, a) -> x.cut(a, 0), at(0, alone), at(last, joined));
      number("b, n " + n, made, (x, b) -> x.cut(0, b), at(0, alone), at(last, joined));
    }
  }

  // ---- machines

  private static void set() {
    Check.in("promise 23, set");
    for (int n = 1; n <= 6; n++) {
      int points = n;
      int last = n - 1;
      Supplier<PointMaps> made = () -> Made.some(points);
      number("START, n " + n, made, (x, v) -> x.set(0, v), at(0, last), at(last, last));
      number("ENDS, n " + n, made, (x, v) -> x.set(1, v), at(0, 1), at((1 << n) - 1, 1));
      dueSet(n, 0, last);
      dueSet(n, 1, (1 << n) - 1);
    }
    number("what", () -> Made.some(3), (x, what) -> x.set(what, 1), at(0, 2), at(1, 1));
  }

  /** The greatest, and the least behind it, are there when they have been told. */
  private static void dueSet(int n, int what, int greatest) {
    PointMaps x = Made.of(n);
    x.set(what, greatest);
    Check.due("count of the greatest, n " + n, greatest, x.count(2 + what));
    Check.due("what it was, n " + n, greatest, x.set(what, 0));
    Check.due("count of the least, n " + n, 0, x.count(2 + what));
  }

  private static void taken() {
    Check.in("promise 24, taken");
    number("length, all words", () -> Made.machine(0, 1, 1, 0, 0, 0, 0), PointMaps::taken,
        at(0, 1), at(40, 496641140));
    number("length, one word each", () -> Made.machine(1, 3, 2, 2), PointMaps::taken, at(0, 1), at(40, 1));
    number("length, no letters", () -> Made.machine(1, 3, 2), PointMaps::taken, at(0, 1), at(40, 0));
    number("length, too many elements", Made::tooMany, PointMaps::taken, at(0, 0), at(40, 583085849));
  }

  private static void parting() {
    Check.in("promise 26, parting");
    for (int n = 1; n <= 6; n++) {
      int points = n;
      int last = n - 1;
      int empty = n == 1 ? NONE : 0;
      Supplier<PointMaps> made = () -> Made.some(points);
      number("a, n " + n, made, (x, a) -> x.parting(a, 0, -1), at(0, NONE), at(last, empty));
      number("b, n " + n, made, (x, b) -> x.parting(0, b, -1), at(0, NONE), at(last, empty));
    }
    Supplier<PointMaps> chain = () -> Made.machine(0, 32, 6, Made.map(1, 2, 3, 4, 5, 5));
    number("i of no letters", chain, (x, i) -> x.parting(4, 5, i), at(-1, 0), at(-1, 0));
    number("i of one letter", chain, (x, i) -> x.parting(3, 4, i), at(-1, 1), at(0, 0));
    number("i of four letters", chain, (x, i) -> x.parting(0, 1, i), at(-1, 4), at(3, 0));
    number("i of NONE", chain, (x, i) -> x.parting(2, 2, i), at(-1, NONE), at(-1, NONE));
  }

  private static void meanings() {
    Check.in("promise 27, meanings");
    number("what", () -> Made.machine(0, 4, 3, Made.map(1, 2, 2)), PointMaps::meanings, at(0, 3), at(1, 1));
    number("what, a star is needed", () -> Made.machine(0, 1, 6, Made.turned(1, 6)), PointMaps::meanings,
        at(0, 6), at(1, 0));
    number("what, too many", Made::tooMany, PointMaps::meanings, at(0, PointMaps.SPENT), at(1, PointMaps.SPENT));
  }

  private static void count() {
    Check.in("promise 28, count");
    number("what", () -> Made.machine(3, 19, 5, 7, 8), PointMaps::count, at(0, 5), at(3, 19));
    number("what, a new object", PointMaps::new, PointMaps::count, at(0, 3), at(3, 0));
    number("what, too many", Made::tooMany, PointMaps::count, at(0, 6), at(3, 1));
  }
}
