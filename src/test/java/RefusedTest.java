import java.util.function.ToIntFunction;

/**
 * Each refused call: its answer is the one told, the first of two refusals comes first, and
 * nothing changes by it. (BAD of one number too small or too large alone: NumbersTest.)
 */
public final class RefusedTest {
  private static final int BAD = -1, FULL = -3, SPENT = -5, NONE = -9;

  public static void main(String[] args) {
    fifthLetter();
    badAheadOfFull();
    fullWhenThereAreTooMany();
    dropOfNone();
    spent();
    badAheadOfSpent();
    spentAheadOfNumbersThatAreNone();
    badWhatAheadOfAll();
    twoBadNumbers();
    noLetterOfAWordThatIsNone();
    Check.end();
  }

  private static void tooMany(String call, ToIntFunction<PointMaps> asked, int answer) {
    Refused.due(call, Made::tooMany, asked, answer);
  }

  private static PointMaps full(int n) {
    return Made.machine(n - 1, 1, n, Made.turned(1, n), 0, Made.nothing(n), Made.allTo(n - 1, n));
  }

  private static void fifthLetter() {
    for (int n = 1; n <= 6; n++) {
      int points = n;
      int greatest = Made.power(n, n) - 1;
      Check.in("promise 3, letter: FULL, n " + n);
      Refused.due("the fifth, the least map", () -> full(points), x -> x.letter(0), FULL);
      Refused.due("the fifth, the greatest map", () -> full(points), x -> x.letter(greatest), FULL);
      Check.due("the fourth is none too many", 4, full(n).count(1));
      PointMaps x = full(n);
      x.letter(0);
      Check.due("how many are left, one less", 3, x.drop());
      Check.due("room for one again", 3, x.letter(0));
      Check.due("and for no more", FULL, x.letter(0));
    }
  }

  private static void badAheadOfFull() {
    for (int n = 1; n <= 6; n++) {
      int points = n;
      int maps = Made.power(n, n);
      Check.in("promise 3, letter: BAD ahead of FULL, n " + n);
      Refused.due("one too small", () -> full(points), x -> x.letter(-1), BAD);
      Refused.due("one too large", () -> full(points), x -> x.letter(maps), BAD);
    }
  }

  private static void fullWhenThereAreTooMany() {
    Check.in("promise 3, letter: never SPENT");
    tooMany("FULL", x -> x.letter(0), FULL);
    tooMany("BAD", x -> x.letter(46656), BAD);
    PointMaps x = Made.tooMany();
    x.drop();
    x.letter(Made.ONE_TOO_MANY[3]);
    Check.due("SPENT again behind the letter", SPENT, x.elements(0));
    PointMaps all = Made.of(5, Made.turned(1, 5), Made.map(1, 0, 2, 3, 4), Made.map(0, 0, 2, 3, 4));
    Check.due("too many by three letters", SPENT, all.elements(0));
    Check.due("the fourth", 3, all.letter(0));
  }

  private static void dropOfNone() {
    Check.in("promise 4, drop: BAD");
    Refused.due("a new object", PointMaps::new, x -> x.drop(), BAD);
    for (int n = 1; n <= 6; n++) {
      int points = n;
      Refused.due("behind points(" + n + ")", () -> Made.machine(points - 1, 1, points), x -> x.drop(), BAD);
    }
    Refused.due("behind the last one", RefusedTest::allDropped, x -> x.drop(), BAD);
    PointMaps x = allDropped();
    x.drop();
    Check.due("the next is LETTER 0", 0, x.letter(0));
  }

  private static PointMaps allDropped() {
    PointMaps x = Made.some(4);
    x.drop();
    x.drop();
    return x;
  }

  private static void spent() {
    Check.in("promises 5 to 16 and 27: SPENT");
    for (int each = 0; each < 8; each++) {
      int what = each;
      tooMany("element(0, " + what + ")", x -> x.element(0, what), SPENT);
      tooMany("boxes(" + what + ")", x -> x.boxes(what), SPENT);
      tooMany("about(0, " + what + ")", x -> x.about(0, what), SPENT);
    }
    for (int each = 0; each < 4; each++) {
      int what = each;
      tooMany("elements(" + what + ")", x -> x.elements(what), SPENT);
      tooMany("box(0, " + what + ")", x -> x.box(0, what), SPENT);
      tooMany("solve(0, 0, " + what / 2 + ", " + what % 2 + ")", x -> x.solve(0, 0, what / 2, what % 2), SPENT);
    }
    for (int each = 0; each < 7; each++) {
      int what = each;
      tooMany("sort(" + what + ")", x -> x.sort(what), SPENT);
    }
    tooMany("word(1, 0)", x -> x.word(1, 0), SPENT);
    tooMany("find(0)", x -> x.find(0), SPENT);
    tooMany("find of what does nothing", x -> x.find(Made.nothing(6)), SPENT);
    tooMany("done(0, 0)", x -> x.done(0, 0), SPENT);
    tooMany("below(0, 0)", x -> x.below(0, 0), SPENT);
    tooMany("ideal(0)", x -> x.ideal(0), SPENT);
    tooMany("meanings(0)", x -> x.meanings(0), SPENT);
    tooMany("meanings(1)", x -> x.meanings(1), SPENT);
  }

  private static void badAheadOfSpent() {
    Check.in("BAD ahead of SPENT");
    tooMany("elements(-1)", x -> x.elements(-1), BAD);
    tooMany("elements(4)", x -> x.elements(4), BAD);
    tooMany("element(0, -1)", x -> x.element(0, -1), BAD);
    tooMany("element(0, 8)", x -> x.element(0, 8), BAD);
    tooMany("find(-1)", x -> x.find(-1), BAD);
    tooMany("find(46656)", x -> x.find(46656), BAD);
    tooMany("boxes(-1)", x -> x.boxes(-1), BAD);
    tooMany("boxes(8)", x -> x.boxes(8), BAD);
    tooMany("box(0, -1)", x -> x.box(0, -1), BAD);
    tooMany("box(0, 4)", x -> x.box(0, 4), BAD);
    tooMany("about(0, -1)", x -> x.about(0, -1), BAD);
    tooMany("about(0, 8)", x -> x.about(0, 8), BAD);
    tooMany("sort(-1)", x -> x.sort(-1), BAD);
    tooMany("sort(7)", x -> x.sort(7), BAD);
    tooMany("solve(0, 0, -1, 0)", x -> x.solve(0, 0, -1, 0), BAD);
    tooMany("solve(0, 0, 2, 0)", x -> x.solve(0, 0, 2, 0), BAD);
    tooMany("solve(0, 0, 0, -1)", x -> x.solve(0, 0, 0, -1), BAD);
    tooMany("solve(0, 0, 0, 2)", x -> x.solve(0, 0, 0, 2), BAD);
    tooMany("meanings(-1)", x -> x.meanings(-1), BAD);
    tooMany("meanings(2)", x -> x.meanings(2), BAD);
  }

  private static void spentAheadOfNumbersThatAreNone() {
    Check.in("SPENT ahead of BAD of a number that is none");
    for (int none : new int[] {-1, 1500, 1501, 46656, Made.LEAST_INT, Made.GREATEST_INT}) {
      tooMany("element(" + none + ", 0)", x -> x.element(none, 0), SPENT);
      tooMany("word(" + none + ", 0)", x -> x.word(none, 0), SPENT);
      tooMany("word(1, " + none + ")", x -> x.word(1, none), SPENT);
      tooMany("done(" + none + ", 0)", x -> x.done(none, 0), SPENT);
      tooMany("done(0, " + none + ")", x -> x.done(0, none), SPENT);
      tooMany("box(" + none + ", 0)", x -> x.box(none, 0), SPENT);
      tooMany("about(" + none + ", 0)", x -> x.about(none, 0), SPENT);
      tooMany("below(" + none + ", 0)", x -> x.below(none, 0), SPENT);
      tooMany("below(0, " + none + ")", x -> x.below(0, none), SPENT);
      tooMany("ideal(" + none + ")", x -> x.ideal(none), SPENT);
      tooMany("solve(" + none + ", 0, 0, 0)", x -> x.solve(none, 0, 0, 0), SPENT);
      tooMany("solve(0, " + none + ", 0, 0)", x -> x.solve(0, none, 0, 0), SPENT);
    }
    tooMany("word(0, 0), the empty WORD", x -> x.word(0, 0), SPENT);
  }

  private static void badWhatAheadOfAll() {
    Check.in("a what that is none, ahead of SPENT and of a number that is none");
    tooMany("element(-1, 8)", x -> x.element(-1, 8), BAD);
    tooMany("box(-1, 4)", x -> x.box(-1, 4), BAD);
    tooMany("about(-1, 8)", x -> x.about(-1, 8), BAD);
    tooMany("solve(-1, 0, 2, 0)", x -> x.solve(-1, 0, 2, 0), BAD);
    tooMany("solve(0, -1, 0, 2)", x -> x.solve(0, -1, 0, 2), BAD);
  }

  private static void twoBadNumbers() {
    Check.in("two numbers that are none");
    Refused.due("element(4, 8)", Made::ofTwo, x -> x.element(4, 8), BAD);
    Refused.due("word(4, 2)", Made::ofTwo, x -> x.word(4, 2), BAD);
    Refused.due("done(4, 4)", Made::ofTwo, x -> x.done(4, 4), BAD);
    Refused.due("box(4, 4)", Made::ofTwo, x -> x.box(4, 4), BAD);
    Refused.due("about(2, 8)", Made::ofTwo, x -> x.about(2, 8), BAD);
    Refused.due("below(2, 2)", Made::ofTwo, x -> x.below(2, 2), BAD);
    Refused.due("solve(4, 4, 2, 2)", Made::ofTwo, x -> x.solve(4, 4, 2, 2), BAD);
    Refused.due("together(0, -2)", Made::ofTwo, x -> x.together(0, -2), BAD);
    Refused.due("cut(2, 2)", Made::ofTwo, x -> x.cut(2, 2), BAD);
    Refused.due("set(2, 4)", Made::ofTwo, x -> x.set(2, 4), BAD);
    Refused.due("parting(2, 2, -2)", Made::ofTwo, x -> x.parting(2, 2, -2), BAD);
  }

  private static void noLetterOfAWordThatIsNone() {
    Check.in("promises 17 and 26: NONE is no refusal, but it has no LETTER");
    Refused.due("together(7, -1), NONE", Made::ofRound, x -> x.together(7, -1), NONE);
    Refused.due("together(7, 0)", Made::ofRound, x -> x.together(7, 0), BAD);
    Refused.due("together(7, 1)", Made::ofRound, x -> x.together(7, 1), BAD);
    Refused.due("together(4, 0), the empty WORD", Made::ofRound, x -> x.together(4, 0), BAD);
    Refused.due("parting(1, 1, -1), NONE", () -> Made.some(3), x -> x.parting(1, 1, -1), NONE);
    Refused.due("parting(1, 1, 0)", () -> Made.some(3), x -> x.parting(1, 1, 0), BAD);
    Refused.due("parting(1, 1, 1)", () -> Made.some(3), x -> x.parting(1, 1, 1), BAD);
    Refused.due("parting(0, 1, 0), the empty WORD", () -> Made.some(3), x -> x.parting(0, 1, 0), BAD);
  }
}
