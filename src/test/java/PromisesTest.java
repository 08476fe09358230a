/** Each promise by itself: ordinary calls, the edges that the document names, wrong calls. */
public final class PromisesTest {
  private static final int BAD = -1, FULL = -3, SPENT = -5, NONE = -9;

  public static void main(String[] args) {
    newObject();
    points();
    letter();
    drop();
    elements();
    element();
    word();
    find();
    done();
    boxes();
    box();
    about();
    below();
    ideal();
    sort();
    solve();
    together();
    lowest();
    apart();
    cut();
    cuts();
    twists();
    set();
    taken();
    least();
    parting();
    meanings();
    count();
    Check.end();
  }

  // ---- points, letters

  private static void newObject() {
    Check.in("promise 1, a new object");
    PointMaps x = new PointMaps();
    Check.due("count(0)", 3, x.count(0));
    Check.due("count(1)", 0, x.count(1));
    Check.due("count(2)", 0, x.count(2));
    Check.due("count(3)", 0, x.count(3));
    Check.due("elements(0)", 1, x.elements(0));
    Check.due("element(0, 0)", Made.map(0, 1, 2), x.element(0, 0));
    Check.due("drop()", BAD, x.drop());
    PointMaps other = new PointMaps();
    other.letter(0);
    Check.due("count(1) beside another object", 0, x.count(1));
  }

  private static void points() {
    Check.in("promise 2, points");
    PointMaps x = new PointMaps();
    Check.due("points(6)", 3, x.points(6));
    Check.due("points(1)", 6, x.points(1));
    Check.due("points(4)", 1, x.points(4));
    x.letter(Made.map(1, 2, 3, 0));
    x.set(0, 2);
    x.set(1, 9);
    for (int wrong : new int[] {0, 7, -1, Made.LEAST_INT, Made.GREATEST_INT}) {
      Check.due("points(" + wrong + ")", BAD, x.points(wrong));
    }
    Check.due("count(0) behind BAD", 4, x.count(0));
    Check.due("count(1) behind BAD", 1, x.count(1));
    Check.due("count(2) behind BAD", 2, x.count(2));
    Check.due("count(3) behind BAD", 9, x.count(3));
    Check.due("elements(0) behind BAD", 4, x.elements(0));
    Check.due("points(4) again", 4, x.points(4));
    Check.due("count(0)", 4, x.count(0));
    Check.due("count(1)", 0, x.count(1));
    Check.due("count(2)", 0, x.count(2));
    Check.due("count(3)", 0, x.count(3));
    Check.due("elements(0)", 1, x.elements(0));
  }

  private static void letter() {
    Check.in("promise 3, letter");
    int[] most = {0, 1, 4, 27, 256, 3125, 46656};
    for (int n = 1; n <= 6; n++) {
      PointMaps x = Made.of(n);
      Check.due("letter(n^n), n " + n, BAD, x.letter(most[n]));
      Check.due("letter(n^n - 1), n " + n, 0, x.letter(most[n] - 1));
      Check.due("letter(0), n " + n, 1, x.letter(0));
      Check.due("letter(-1), n " + n, BAD, x.letter(-1));
      Check.due("count(1), n " + n, 2, x.count(1));
    }
    PointMaps x = Made.of(2, 1, 1, 1);
    Check.due("elements(0)", 2, x.elements(0));
    Check.due("the fourth", 3, x.letter(0));
    Check.due("the fifth", FULL, x.letter(3));
    Check.due("BAD ahead of FULL", BAD, x.letter(4));
    Check.due("BAD ahead of FULL", BAD, x.letter(Made.LEAST_INT));
    Check.due("count(1)", 4, x.count(1));
    Check.due("elements(0)", 4, x.elements(0));
  }

  private static void drop() {
    Check.in("promise 4, drop");
    PointMaps x = Made.of(2, Made.map(1, 0), Made.map(0, 0), 0, 0);
    x.set(0, 1);
    x.set(1, 2);
    Check.due("elements(0)", 4, x.elements(0));
    Check.due("drop()", 3, x.drop());
    Check.due("drop()", 2, x.drop());
    Check.due("elements(0)", 4, x.elements(0));
    Check.due("drop()", 1, x.drop());
    Check.due("elements(0)", 2, x.elements(0));
    Check.due("find(1)", 1, x.find(1));
    Check.due("find(0)", NONE, x.find(0));
    Check.due("boxes(0)", 1, x.boxes(0));
    Check.due("drop()", 0, x.drop());
    Check.due("drop() of none", BAD, x.drop());
    Check.due("count(1)", 0, x.count(1));
    Check.due("count(0)", 2, x.count(0));
    Check.due("START stays", 1, x.count(2));
    Check.due("ENDS stay", 2, x.count(3));
    Check.due("letter again", 0, x.letter(0));
    PointMaps full = Made.of(1, 0, 0, 0, 0);
    full.drop();
    Check.due("room again", 3, full.letter(0));
  }

  private static void elements() {
    Check.in("promise 5, elements");
    PointMaps x = Made.ofTwo();
    Check.due("elements(0)", 4, x.elements(0));
    Check.due("elements(1)", 3, x.elements(1));
    Check.due("elements(2)", 1, x.elements(2));
    Check.due("elements(3)", 2, x.elements(3));
    Check.due("elements(0) of all three", 27, Made.ofAllThree().elements(0));
    Check.due("elements(1) of all three", 10, Made.ofAllThree().elements(1));
    Check.due("elements(2) of a round", 3, Made.ofRound().elements(2));
    Check.due("elements(3) of a round", 3, Made.ofRound().elements(3));
    Check.due("elements(3) of a chain", 1, Made.ofChain().elements(3));
    Check.due("elements(3), rounds of 2 and 3", 6, Made.of(6, Made.map(1, 0, 3, 4, 2, 5)).elements(3));
    for (int wrong : new int[] {-1, 4, Made.LEAST_INT, Made.GREATEST_INT}) {
      Check.due("elements(" + wrong + ")", BAD, x.elements(wrong));
      Check.due("BAD ahead of SPENT", BAD, Made.tooMany().elements(wrong));
    }
    Check.due("just enough", 1500, Made.enough().elements(0));
    for (int what = 0; what < 4; what++) {
      Check.due("one too many, what " + what, SPENT, Made.tooMany().elements(what));
    }
    PointMaps again = Made.tooMany();
    again.elements(0);
    again.drop();
    again.drop();
    Check.so("few enough again", again.elements(0) > 0);
    again.points(2);
    Check.due("few enough again", 1, again.elements(0));
  }

  private static void element() {
    Check.in("promise 6, element");
    PointMaps x = Made.ofTwo();
    int[][] due = {
      {Made.map(0, 1), 2, Made.map(0, 1), 0, 1, 0, 1, 0},
      {Made.map(1, 0), 2, Made.map(0, 1), 1, 0, 0, 2, 0},
      {Made.map(0, 0), 1, Made.map(0, 0), 1, 1, 0, 1, 2},
      {Made.map(1, 1), 1, Made.map(0, 0), 2, 1, 0, 1, 3}};
    for (int e = 0; e < 4; e++) {
      for (int what = 0; what < 8; what++) {
        Check.due("element(" + e + ", " + what + ")", due[e][what], x.element(e, what));
      }
    }
    PointMaps y = Made.of(4, Made.map(3, 3, 0, 0));
    Check.due("KERNEL", Made.map(0, 0, 2, 2), y.element(1, 2));
    Check.due("RANK", 2, y.element(1, 1));
    tailsAndRings();
    for (int wrong : new int[] {-1, 4, 1500, Made.LEAST_INT, Made.GREATEST_INT}) {
      Check.due("element(" + wrong + ", 0)", BAD, x.element(wrong, 0));
    }
    Check.due("element(0, -1)", BAD, x.element(0, -1));
    Check.due("element(0, 8)", BAD, x.element(0, 8));
    Check.due("what is BAD ahead of SPENT", BAD, Made.tooMany().element(0, 8));
    Check.due("SPENT", SPENT, Made.tooMany().element(0, 0));
    Check.due("SPENT ahead of a number that is none", SPENT, Made.tooMany().element(1501, 0));
    Check.due("SPENT ahead of a number that is none", SPENT, Made.tooMany().element(-1, 0));
    Check.so("the last of 1500 is there", Made.enough().element(1499, 1) >= 1);
    Check.due("none behind it", BAD, Made.enough().element(1500, 1));
  }

  private static void tailsAndRings() {
    PointMaps chain = Made.of(6, Made.map(0, 0, 1, 2, 3, 4));
    Check.due("TAIL of a chain", 4, chain.element(1, 5));
    Check.due("RING of a chain", 1, chain.element(1, 6));
    Check.due("still one of a chain", chain.find(0), chain.element(1, 7));
    PointMaps both = Made.of(4, Made.map(1, 0, 0, 2));
    Check.due("TAIL of a chain into a round", 1, both.element(1, 5));
    Check.due("RING of a chain into a round", 2, both.element(1, 6));
    Check.due("still one of a chain into a round", both.find(Made.map(0, 1, 1, 0)), both.element(1, 7));
    PointMaps near = Made.of(3, Made.map(1, 0, 0));
    Check.due("TAIL, if it comes again itself", 0, near.element(1, 5));
    Check.due("RING, if it comes again itself", 2, near.element(1, 6));
    PointMaps six = Made.of(5, Made.map(1, 0, 3, 4, 2));
    Check.due("RING of rounds of 2 and 3", 6, six.element(1, 6));
    Check.due("their still one", 0, six.element(1, 7));
  }

  private static void word() {
    Check.in("promise 7, word");
    PointMaps x = Made.ofTwo();
    Check.due("word(1, 0)", 0, x.word(1, 0));
    Check.due("word(2, 0)", 1, x.word(2, 0));
    Check.due("word(3, 0)", 1, x.word(3, 0));
    Check.due("word(3, 1)", 0, x.word(3, 1));
    Check.due("word(3, 2)", BAD, x.word(3, 2));
    Check.due("word(3, -1)", BAD, x.word(3, -1));
    Check.due("the empty WORD", BAD, x.word(0, 0));
    Check.due("word(0, -1)", BAD, x.word(0, -1));
    Check.due("word(4, 0)", BAD, x.word(4, 0));
    Check.due("word(-1, 0)", BAD, x.word(-1, 0));
    Check.due("word(1, MAX)", BAD, x.word(1, Made.GREATEST_INT));
    Check.due("word(1, MIN)", BAD, x.word(1, Made.LEAST_INT));
    Check.due("SPENT", SPENT, Made.tooMany().word(1, 0));
    Check.due("SPENT ahead of a number that is none", SPENT, Made.tooMany().word(-1, 0));
    Check.due("SPENT ahead of a letter that is none", SPENT, Made.tooMany().word(0, 0));
    wordsAreLeast();
  }

  /** Letters 0 and 1 alike: words take the first one. Each word does its element. */
  private static void wordsAreLeast() {
    PointMaps x = Made.of(3, Made.map(1, 2, 0), Made.map(1, 2, 0), Made.map(0, 0, 2));
    int[][] to = {{1, 2, 0}, {1, 2, 0}, {0, 0, 2}};
    for (int e = 0; e < x.elements(0); e++) {
      int length = x.element(e, 3);
      int[] at = {0, 1, 2};
      for (int i = 0; i < length; i++) {
        int k = x.word(e, i);
        Check.so("letter 1 is never the first", k != 1);
        for (int p = 0; p < 3; p++) {
          at[p] = to[k][at[p]];
        }
      }
      Check.due("what the word of " + e + " does", x.element(e, 0), Made.map(at));
      Check.so("no word is shorter than those before", e == 0 || x.element(e - 1, 3) <= length);
    }
  }

  private static void find() {
    Check.in("promise 8, find");
    PointMaps x = Made.ofTwo();
    Check.due("find(nothing)", 0, x.find(Made.map(0, 1)));
    Check.due("find(exchange)", 1, x.find(Made.map(1, 0)));
    Check.due("find(all to 0)", 2, x.find(0));
    Check.due("find(all to 1)", 3, x.find(3));
    Check.due("find(4)", BAD, x.find(4));
    Check.due("find(-1)", BAD, x.find(-1));
    Check.due("find(MAX)", BAD, x.find(Made.GREATEST_INT));
    Check.due("NONE", NONE, Made.ofRound().find(0));
    Check.due("SPENT", SPENT, Made.tooMany().find(0));
    Check.due("BAD ahead of SPENT", BAD, Made.tooMany().find(46656));
    Check.due("BAD ahead of SPENT", BAD, Made.tooMany().find(-1));
    findOfEach();
  }

  /** In steps, because an object is used for 512 calls. */
  private static void findOfEach() {
    for (int first = 0; first < 1500; first += 250) {
      PointMaps many = Made.enough();
      for (int e = first; e < first + 250; e++) {
        Check.due("find of the map of " + e, e, many.find(many.element(e, 0)));
      }
    }
  }

  private static void done() {
    Check.in("promise 9, done");
    PointMaps x = Made.ofTwo();
    int[][] due = {{0, 1, 2, 3}, {1, 0, 2, 3}, {2, 3, 2, 3}, {3, 2, 2, 3}};
    for (int a = 0; a < 4; a++) {
      for (int b = 0; b < 4; b++) {
        Check.due("done(" + a + ", " + b + ")", due[a][b], x.done(a, b));
      }
    }
    Check.due("done(4, 0)", BAD, x.done(4, 0));
    Check.due("done(0, 4)", BAD, x.done(0, 4));
    Check.due("done(-1, 0)", BAD, x.done(-1, 0));
    Check.due("done(0, MIN)", BAD, x.done(0, Made.LEAST_INT));
    Check.due("SPENT", SPENT, Made.tooMany().done(0, 0));
    Check.due("SPENT ahead of a number that is none", SPENT, Made.tooMany().done(-1, 0));
  }

  // ---- boxes

  private static void dueBoxes(String of, PointMaps x, int... due) {
    for (int what = 0; what < 8; what++) {
      Check.due("boxes(" + what + ") of " + of, due[what], x.boxes(what));
    }
  }

  private static void boxes() {
    Check.in("promise 10, boxes");
    dueBoxes("no letters", new PointMaps(), 1, 1, 1, 1, 1, 1, 0, 1);
    dueBoxes("two points", Made.ofTwo(), 2, 2, 3, 3, 2, 3, 1, 2);
    dueBoxes("constants", Made.ofConstants(), 2, 2, 3, 3, 2, 3, 1, 2);
    dueBoxes("one image", Made.ofOneImage(), 2, 3, 2, 3, 2, 3, 1, 2);
    dueBoxes("branches", Made.ofBranches(), 4, 4, 4, 4, 4, 4, 3, 1);
    dueBoxes("a chain", Made.ofChain(), 3, 3, 3, 3, 2, 2, 2, 1);
    dueBoxes("a round", Made.ofRound(), 1, 1, 1, 1, 1, 1, 0, 3);
    dueBoxes("all three", Made.ofAllThree(), 3, 5, 7, 13, 3, 10, 2, 3);
    PointMaps x = Made.ofAllThree();
    x.boxes(0);
    x.drop();
    dueBoxes("all exchanges, which were more", x, 1, 1, 1, 1, 1, 1, 0, 6);
    x.letter(0);
    dueBoxes("all exchanges and constants", x, 2, 2, 4, 4, 2, 4, 1, 3);
    Check.due("boxes(-1)", BAD, Made.ofTwo().boxes(-1));
    Check.due("boxes(8)", BAD, Made.ofTwo().boxes(8));
    Check.due("SPENT", SPENT, Made.tooMany().boxes(0));
    Check.due("BAD ahead of SPENT", BAD, Made.tooMany().boxes(8));
  }

  private static void box() {
    Check.in("promise 11, box");
    int[][] due = {{0, 0, 0, 0}, {0, 0, 0, 0}, {1, 1, 1, 1}, {1, 1, 2, 2}};
    dueBox("two points", Made.ofTwo(), due);
    int[][] image = {{0, 0, 0, 0}, {1, 1, 1, 1}, {1, 2, 1, 2}};
    dueBox("one image", Made.ofOneImage(), image);
    PointMaps x = Made.ofTwo();
    Check.due("box(4, 0)", BAD, x.box(4, 0));
    Check.due("box(-1, 0)", BAD, x.box(-1, 0));
    Check.due("box(0, 4)", BAD, x.box(0, 4));
    Check.due("box(0, -1)", BAD, x.box(0, -1));
    Check.due("SPENT", SPENT, Made.tooMany().box(0, 0));
    Check.due("SPENT ahead of a number that is none", SPENT, Made.tooMany().box(-1, 0));
    Check.due("what is BAD ahead of SPENT", BAD, Made.tooMany().box(0, 4));
  }

  private static void dueBox(String of, PointMaps x, int[][] due) {
    for (int e = 0; e < due.length; e++) {
      for (int what = 0; what < 4; what++) {
        Check.due("box(" + e + ", " + what + ") of " + of, due[e][what], x.box(e, what));
      }
    }
  }

  private static void about() {
    Check.in("promise 12, about");
    dueAbout("two points", Made.ofTwo(), new int[][] {{2, 1, 1, 1, 1, 1, 2, 0}, {2, 1, 2, 2, 1, 2, 1, 2}});
    dueAbout("one image", Made.ofOneImage(), new int[][] {{1, 1, 1, 1, 1, 1, 3, 0}, {2, 2, 1, 2, 1, 2, 2, 1}});
    dueAbout("a chain", Made.ofChain(), new int[][] {
      {1, 1, 1, 1, 1, 1, 3, 0}, {1, 1, 1, 1, 0, 0, 2, 1}, {1, 1, 1, 1, 1, 1, 1, 2}});
    dueAbout("all three", Made.ofAllThree(), new int[][] {
      {6, 1, 1, 1, 1, 1, 3, 0}, {18, 3, 3, 9, 1, 6, 2, 3}, {3, 1, 3, 3, 1, 3, 1, leastConstant()}});
    PointMaps x = Made.ofTwo();
    Check.due("about(2, 0)", BAD, x.about(2, 0));
    Check.due("about(-1, 0)", BAD, x.about(-1, 0));
    Check.due("about(0, 8)", BAD, x.about(0, 8));
    Check.due("about(0, -1)", BAD, x.about(0, -1));
    Check.due("SPENT", SPENT, Made.tooMany().about(0, 0));
    Check.due("SPENT ahead of a number that is none", SPENT, Made.tooMany().about(-1, 0));
    Check.due("what is BAD ahead of SPENT", BAD, Made.tooMany().about(0, 8));
  }

  private static int leastConstant() {
    PointMaps x = Made.ofAllThree();
    return Math.min(x.find(Made.map(0, 0, 0)), Math.min(x.find(Made.map(1, 1, 1)), x.find(Made.map(2, 2, 2))));
  }

  private static void dueAbout(String of, PointMaps x, int[][] due) {
    for (int i = 0; i < due.length; i++) {
      for (int what = 0; what < 8; what++) {
        Check.due("about(" + i + ", " + what + ") of " + of, due[i][what], x.about(i, what));
      }
    }
  }

  private static void below() {
    Check.in("promise 13, below");
    PointMaps x = Made.ofBranches();
    int[][] due = {{1, 0, 0, 0}, {1, 1, 0, 0}, {1, 0, 1, 0}, {1, 1, 1, 1}};
    for (int i = 0; i < 4; i++) {
      for (int j = 0; j < 4; j++) {
        Check.due("below(" + i + ", " + j + ")", due[i][j], x.below(i, j));
      }
    }
    Check.due("below(4, 0)", BAD, x.below(4, 0));
    Check.due("below(0, 4)", BAD, x.below(0, 4));
    Check.due("below(-1, 0)", BAD, x.below(-1, 0));
    Check.due("below(0, MIN)", BAD, x.below(0, Made.LEAST_INT));
    Check.due("SPENT", SPENT, Made.tooMany().below(0, 0));
    Check.due("SPENT ahead of a number that is none", SPENT, Made.tooMany().below(-1, 0));
  }

  private static void ideal() {
    Check.in("promise 14, ideal");
    int[] due = {4, 2, 2, 1};
    for (int e = 0; e < 4; e++) {
      Check.due("ideal(" + e + ") of branches", due[e], Made.ofBranches().ideal(e));
    }
    Check.due("ideal(1) of a chain", 2, Made.ofChain().ideal(1));
    Check.due("ideal(2) of a chain", 1, Made.ofChain().ideal(2));
    Check.due("ideal(1) of one image", 2, Made.ofOneImage().ideal(1));
    Check.due("ideal(2) of two points", 2, Made.ofTwo().ideal(2));
    Check.due("ideal(3) of all three", 21, Made.ofAllThree().ideal(3));
    Check.due("ideal(0) of 1500", 1500, Made.enough().ideal(0));
    Check.due("ideal(4)", BAD, Made.ofBranches().ideal(4));
    Check.due("ideal(-1)", BAD, Made.ofBranches().ideal(-1));
    Check.due("SPENT", SPENT, Made.tooMany().ideal(0));
    Check.due("SPENT ahead of a number that is none", SPENT, Made.tooMany().ideal(-1));
  }

  private static void dueSort(String of, PointMaps x, int... due) {
    for (int what = 0; what < 7; what++) {
      Check.due("sort(" + what + ") of " + of, due[what], x.sort(what));
    }
  }

  private static void sort() {
    Check.in("promise 15, sort");
    dueSort("no letters", new PointMaps(), 1, 1, 1, 1, 1, 1, 1);
    dueSort("two points", Made.ofTwo(), 0, 0, 0, 0, 1, 0, 0);
    dueSort("constants", Made.ofConstants(), 0, 0, 1, 1, 1, 0, 0);
    dueSort("one image", Made.ofOneImage(), 0, 1, 0, 1, 1, 0, 0);
    dueSort("branches", Made.ofBranches(), 1, 1, 1, 1, 1, 1, 0);
    dueSort("a chain", Made.ofChain(), 1, 1, 1, 1, 0, 1, 0);
    dueSort("a round", Made.ofRound(), 1, 0, 0, 0, 1, 1, 1);
    dueSort("all exchanges", Made.of(3, Made.map(1, 2, 0), Made.map(1, 0, 2)), 0, 0, 0, 0, 1, 1, 1);
    Check.due("sort(-1)", BAD, Made.ofTwo().sort(-1));
    Check.due("sort(7)", BAD, Made.ofTwo().sort(7));
    Check.due("SPENT", SPENT, Made.tooMany().sort(0));
    Check.due("BAD ahead of SPENT", BAD, Made.tooMany().sort(7));
  }

  private static void solve() {
    Check.in("promise 16, solve");
    PointMaps x = Made.ofTwo();
    Check.due("2 x = 2, how many", 2, x.solve(2, 2, 1, 0));
    Check.due("2 x = 2, the least", 0, x.solve(2, 2, 1, 1));
    Check.due("2 x = 3, how many", 2, x.solve(2, 3, 1, 0));
    Check.due("2 x = 3, the least", 1, x.solve(2, 3, 1, 1));
    Check.due("x 2 = 2, how many", 4, x.solve(2, 2, 0, 0));
    Check.due("x 2 = 2, the least", 0, x.solve(2, 2, 0, 1));
    Check.due("x 1 = 2, how many", 1, x.solve(1, 2, 0, 0));
    Check.due("x 1 = 2, the least", 3, x.solve(1, 2, 0, 1));
    Check.due("1 x = 2, the least", 2, x.solve(1, 2, 1, 1));
    Check.due("2 x = 0, how many", 0, x.solve(2, 0, 1, 0));
    Check.due("2 x = 0, NONE", NONE, x.solve(2, 0, 1, 1));
    Check.due("x 2 = 3, how many", 0, x.solve(2, 3, 0, 0));
    Check.due("x 2 = 3, NONE", NONE, x.solve(2, 3, 0, 1));
    int[][] wrong = {{4, 0, 0, 0}, {0, 4, 0, 0}, {-1, 0, 0, 0}, {0, -1, 0, 0},
      {0, 0, -1, 0}, {0, 0, 2, 0}, {0, 0, 0, -1}, {0, 0, 0, 2}};
    for (int[] w : wrong) {
      Check.due("a wrong call", BAD, x.solve(w[0], w[1], w[2], w[3]));
    }
    Check.due("SPENT", SPENT, Made.tooMany().solve(0, 0, 0, 0));
    Check.due("SPENT ahead of a number that is none", SPENT, Made.tooMany().solve(-1, 0, 0, 0));
    Check.due("BAD ahead of SPENT", BAD, Made.tooMany().solve(0, 0, 2, 0));
    Check.due("BAD ahead of SPENT", BAD, Made.tooMany().solve(0, 0, 0, 2));
  }

  // ---- sets of points

  private static void together() {
    Check.in("promise 17, together");
    // Round by letter 0, 3 to 0 by letter 1: the longest that four points can ask, nine letters.
    PointMaps x = Made.of(4, Made.map(1, 2, 3, 0), Made.map(0, 1, 2, 0));
    Check.due("together(15, -1)", 9, x.together(15, -1));
    int[] due = {1, 0, 0, 0, 1, 0, 0, 0, 1};
    for (int i = 0; i < 9; i++) {
      Check.due("together(15, " + i + ")", due[i], x.together(15, i));
    }
    Check.due("no letter 9", BAD, x.together(15, 9));
    Check.due("together(15, -2)", BAD, x.together(15, -2));
    Check.due("together(15, MIN)", BAD, x.together(15, Made.LEAST_INT));
    Check.due("together(15, MAX)", BAD, x.together(15, Made.GREATEST_INT));
    Check.due("of one point the empty WORD", 0, x.together(4, -1));
    Check.due("of point 0", 0, x.together(1, -1));
    Check.due("of one point no letter", BAD, x.together(4, 0));
    Check.due("an empty SET", BAD, x.together(0, -1));
    Check.due("bits beyond", BAD, x.together(16, -1));
    Check.due("bits below", BAD, x.together(-1, -1));
    Check.due("NONE", NONE, Made.ofRound().together(3, -1));
    Check.due("NONE has no letter", BAD, Made.ofRound().together(3, 0));
    Check.due("the first of several", 0, Made.of(2, Made.map(1, 1), Made.map(0, 0)).together(3, 0));
    Check.so("never SPENT", Made.tooMany().together(63, -1) > 0);
    Check.due("six points, all bits", 1, Made.of(6, 0).together(63, -1));
    Check.due("six points, bits beyond", BAD, Made.of(6, 0).together(64, -1));
  }

  private static void lowest() {
    Check.in("promise 18, lowest");
    PointMaps x = Made.of(4, Made.map(1, 2, 3, 0), Made.map(0, 1, 2, 0));
    Check.due("lowest(15)", 1, x.lowest(15));
    Check.due("lowest(8)", 1, x.lowest(8));
    PointMaps two = Made.of(4, Made.map(0, 0, 2, 2), Made.map(2, 2, 0, 0));
    Check.due("lowest(15), two heaps", 2, two.lowest(15));
    Check.due("lowest(3), in one heap", 1, two.lowest(3));
    Check.due("lowest(5), in two heaps", 2, two.lowest(5));
    Check.due("lowest(7) of a round", 3, Made.ofRound().lowest(7));
    Check.due("lowest(63) without letters", 6, Made.of(6).lowest(63));
    Check.due("an empty SET comes to none", 0, x.lowest(0));
    Check.due("lowest(16)", BAD, x.lowest(16));
    Check.due("lowest(-1)", BAD, x.lowest(-1));
    Check.due("lowest(MAX)", BAD, x.lowest(Made.GREATEST_INT));
    Check.due("never SPENT", 1, Made.tooMany().lowest(1));
  }

  private static void apart() {
    Check.in("promise 19, apart");
    Check.due("without letters, n 1", 0, Made.of(1).apart());
    Check.due("without letters, n 6", 15, Made.of(6).apart());
    Check.due("of a round", 3, Made.ofRound().apart());
    Check.due("two heaps", 4, Made.of(4, Made.map(0, 0, 2, 2), Made.map(2, 2, 0, 0)).apart());
    Check.due("a long way together", 0, Made.of(4, Made.map(1, 2, 3, 0), Made.map(0, 1, 2, 0)).apart());
  }

  private static void cut() {
    Check.in("promise 20, cut");
    PointMaps x = Made.of(4, Made.map(1, 2, 3, 0));
    Check.due("cut(0, 2)", Made.map(0, 1, 0, 1), x.cut(0, 2));
    Check.due("cut(3, 1)", Made.map(0, 1, 0, 1), x.cut(3, 1));
    Check.due("cut(0, 1)", Made.map(0, 0, 0, 0), x.cut(0, 1));
    Check.due("cut(2, 2)", Made.map(0, 1, 2, 3), x.cut(2, 2));
    PointMaps chain = Made.of(6, Made.map(1, 2, 3, 4, 5, 5));
    Check.due("cut(3, 4)", Made.map(0, 1, 2, 3, 3, 3), chain.cut(3, 4));
    Check.due("cut(0, 5)", Made.map(0, 0, 0, 0, 0, 0), chain.cut(0, 5));
    Check.due("cut without letters", Made.map(0, 1, 1), new PointMaps().cut(2, 1));
    for (int wrong : new int[] {-1, 4, Made.LEAST_INT, Made.GREATEST_INT}) {
      Check.due("cut(" + wrong + ", 0)", BAD, x.cut(wrong, 0));
      Check.due("cut(0, " + wrong + ")", BAD, x.cut(0, wrong));
    }
  }

  private static void cuts() {
    Check.in("promise 21, cuts");
    int[] all = {0, 1, 2, 5, 15, 52, 203};
    for (int n = 1; n <= 6; n++) {
      Check.due("without letters, n " + n, all[n], Made.of(n).cuts());
    }
    Check.due("of a round of three", 2, Made.ofRound().cuts());
    Check.due("of a round of four", 3, Made.of(4, Made.map(1, 2, 3, 0)).cuts());
    Check.due("of a round of six", 4, Made.of(6, Made.map(1, 2, 3, 4, 5, 0)).cuts());
    Check.due("of all three", 2, Made.ofAllThree().cuts());
  }

  private static void twists() {
    Check.in("promise 22, twists");
    int[] all = {0, 1, 2, 6, 24, 120, 720};
    for (int n = 1; n <= 6; n++) {
      Check.due("without letters, n " + n, all[n], Made.of(n).twists());
    }
    Check.due("of a round", 3, Made.ofRound().twists());
    Check.due("of all three", 1, Made.ofAllThree().twists());
    Check.due("of all to 0", 2, Made.of(3, 0).twists());
    Check.due("of two rounds of three", 18, Made.of(6, Made.map(1, 2, 0, 4, 5, 3)).twists());
  }

  // ---- machines

  private static void set() {
    Check.in("promise 23, set");
    PointMaps x = Made.of(4, Made.map(1, 2, 3, 0));
    Check.due("set(0, 3)", 0, x.set(0, 3));
    Check.due("set(1, 15)", 0, x.set(1, 15));
    int[][] wrong = {{0, 4}, {0, -1}, {1, 16}, {1, -1}, {2, 0}, {-1, 0}, {0, Made.LEAST_INT}, {1, Made.GREATEST_INT}};
    for (int[] w : wrong) {
      Check.due("set(" + w[0] + ", " + w[1] + ")", BAD, x.set(w[0], w[1]));
    }
    Check.due("count(2)", 3, x.count(2));
    Check.due("count(3)", 15, x.count(3));
    Check.due("set(0, 1)", 3, x.set(0, 1));
    Check.due("set(1, 8)", 15, x.set(1, 8));
    Check.due("taken(2)", 1, x.taken(2));
    Check.due("set(0, 0)", 1, x.set(0, 0));
    Check.due("taken(2)", 0, x.taken(2));
    Check.due("set(1, 0)", 8, x.set(1, 0));
    Check.due("six points", 0, Made.of(6).set(1, 63));
    Check.due("six points", BAD, Made.of(6).set(1, 64));
    Check.due("six points", BAD, Made.of(6).set(0, 6));
    Check.due("one point", BAD, Made.of(1).set(0, 1));
  }

  private static void taken() {
    Check.in("promise 24, taken");
    PointMaps x = Made.of(2, Made.map(1, 0), Made.map(0, 1));
    x.set(1, 1);
    Check.due("taken(0), START is an end", 1, x.taken(0));
    Check.due("taken(1)", 1, x.taken(1));
    Check.due("taken(3)", 4, x.taken(3));
    Check.due("taken(31), below the prime twice", 73741817, x.taken(31));
    x.set(0, 1);
    Check.due("taken(0), START is none", 0, x.taken(0));
    PointMaps four = Made.of(1, 0, 0, 0, 0);
    four.set(1, 1);
    Check.due("all words, four letters alike", 256, four.taken(4));
    Check.due("4^40", 496641140, four.taken(40));
    four.set(1, 0);
    Check.due("no ends", 0, four.taken(40));
    PointMaps none = Made.of(2);
    none.set(1, 1);
    Check.due("no letters, the empty WORD", 1, none.taken(0));
    Check.due("no letters, no WORD", 0, none.taken(1));
    Check.due("taken(41)", BAD, x.taken(41));
    Check.due("taken(-1)", BAD, x.taken(-1));
    Check.due("taken(MAX)", BAD, x.taken(Made.GREATEST_INT));
    Check.due("never SPENT", 583085849, Made.tooMany().taken(40));
  }

  private static void least() {
    Check.in("promise 25, least");
    int round = Made.map(1, 2, 3, 4, 5, 0);
    Check.due("no ends", 1, Made.machine(0, 0, 6, round).least());
    Check.due("all ends", 1, Made.machine(0, 63, 6, round).least());
    Check.due("one end", 6, Made.machine(0, 1, 6, round).least());
    Check.due("each second one", 2, Made.machine(0, 21, 6, round).least());
    Check.due("each third one", 3, Made.machine(3, 9, 6, round).least());
    Check.due("no letters: only START can be come to", 1, Made.machine(0, 2, 3).least());
    // State 0 goes to 1 and stays: 2 and 3 are not come to, though unlike.
    Check.due("two can be come to", 2, Made.machine(0, 10, 4, Made.map(1, 1, 3, 2)).least());
    Check.due("from another START", 2, Made.machine(2, 10, 4, Made.map(1, 1, 3, 2)).least());
    Check.due("a START that is alone", 1, Made.machine(1, 10, 4, Made.map(1, 1, 3, 2)).least());
  }

  private static void parting() {
    Check.in("promise 26, parting");
    PointMaps x = Made.machine(0, 32, 6, Made.map(1, 2, 3, 4, 5, 5), Made.map(0, 1, 2, 3, 4, 5));
    Check.due("parting(0, 1, -1)", 4, x.parting(0, 1, -1));
    for (int i = 0; i < 4; i++) {
      Check.due("parting(0, 1, " + i + ")", 0, x.parting(0, 1, i));
    }
    Check.due("no letter 4", BAD, x.parting(0, 1, 4));
    Check.due("the empty WORD", 0, x.parting(4, 5, -1));
    Check.due("the empty WORD has no letter", BAD, x.parting(5, 4, 0));
    Check.due("alike to itself", NONE, x.parting(3, 3, -1));
    Check.due("no letter, if alike", BAD, x.parting(3, 3, 0));
    PointMaps two = Made.machine(0, 1, 3, Made.map(0, 1, 2), Made.map(1, 1, 0), Made.map(1, 1, 0));
    Check.due("two unlike by letter 1", 1, two.parting(1, 2, -1));
    Check.due("the first that parts", 1, two.parting(1, 2, 0));
    Check.due("of two shortest words the first", 0, Made.machine(0, 1, 3, Made.map(1, 1, 0), Made.map(1, 1, 0)).parting(1, 2, 0));
    Check.due("alike", NONE, Made.machine(0, 6, 3, Made.map(0, 1, 2)).parting(1, 2, -1));
    for (int wrong : new int[] {-1, 6, Made.LEAST_INT, Made.GREATEST_INT}) {
      Check.due("parting(" + wrong + ", 0, -1)", BAD, x.parting(wrong, 0, -1));
      Check.due("parting(0, " + wrong + ", -1)", BAD, x.parting(0, wrong, -1));
    }
    Check.due("parting(0, 1, -2)", BAD, x.parting(0, 1, -2));
    Check.due("parting(0, 1, MIN)", BAD, x.parting(0, 1, Made.LEAST_INT));
    Check.due("parting(0, 1, MAX)", BAD, x.parting(0, 1, Made.GREATEST_INT));
    Check.due("never SPENT", 0, Made.tooMany().parting(0, 1, -1));
  }

  private static void dueMeanings(String of, PointMaps x, int many, int starless) {
    Check.due("meanings(0) of " + of, many, x.meanings(0));
    Check.due("meanings(1) of " + of, starless, x.meanings(1));
  }

  private static void meanings() {
    Check.in("promise 27, meanings");
    int round = Made.map(1, 2, 3, 4, 5, 0);
    dueMeanings("no ends", Made.machine(0, 0, 6, round), 1, 1);
    dueMeanings("words by twos", Made.machine(0, 21, 6, round), 2, 0);
    dueMeanings("words by sixes", Made.machine(0, 1, 6, round), 6, 0);
    dueMeanings("a chain", Made.machine(0, 4, 3, Made.map(1, 2, 2)), 3, 1);
    dueMeanings("the last letter", Made.machine(0, 2, 2, Made.map(1, 1), Made.map(0, 0)), 3, 1);
    dueMeanings("a round that can't be come to", Made.machine(0, 2, 3, Made.map(0, 2, 1)), 1, 1);
    dueMeanings("a round that can be", Made.machine(1, 2, 3, Made.map(0, 2, 1)), 2, 0);
    dueMeanings("no letters", Made.machine(0, 1, 3), 1, 1);
    PointMaps changed = Made.machine(0, 21, 6, round);
    Check.due("meanings(0)", 2, changed.meanings(0));
    Check.due("meanings(0) again", 2, changed.meanings(0));
    changed.set(1, 1);
    Check.due("meanings(0) with other ENDS", 6, changed.meanings(0));
    Check.due("meanings(2)", BAD, Made.ofTwo().meanings(2));
    Check.due("meanings(-1)", BAD, Made.ofTwo().meanings(-1));
    Check.due("SPENT", SPENT, Made.tooMany().meanings(0));
    Check.due("SPENT", SPENT, Made.tooMany().meanings(1));
    Check.due("BAD ahead of SPENT", BAD, Made.tooMany().meanings(2));
    Check.due("1500 are not too many", 1, Made.enough().meanings(0));
  }

  private static void count() {
    Check.in("promise 28, count");
    PointMaps x = Made.machine(4, 19, 5, 7, 8, 9);
    Check.due("count(0)", 5, x.count(0));
    Check.due("count(1)", 3, x.count(1));
    Check.due("count(2)", 4, x.count(2));
    Check.due("count(3)", 19, x.count(3));
    for (int wrong : new int[] {-1, 4, Made.LEAST_INT, Made.GREATEST_INT}) {
      Check.due("count(" + wrong + ")", BAD, x.count(wrong));
    }
  }
}
