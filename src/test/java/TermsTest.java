/** The boundaries that the sentences of "Terms" name, section by section. */
public final class TermsTest {
  private static final int BAD = -1, NONE = -9;

  public static void main(String[] args) {
    newObject();
    pointsOfAMap();
    emptyWordIsAnElement();
    numbersOfElements();
    leastWords();
    rank();
    kernel();
    still();
    tailAndRing();
    centre();
    rightAndLeftBoxes();
    boxes();
    regular();
    belowAndIdeal();
    leastBox();
    sorts();
    equation();
    together();
    lowest();
    apart();
    takenAsOne();
    twists();
    startAndEnds();
    taken();
    leastMachine();
    parting();
    meanings();
    starless();
    Check.end();
  }

  private static PointMaps chain(int n) {
    int[] to = new int[n];
    for (int i = 0; i < n; i++) {
      to[i] = Math.max(0, i - 1);
    }
    return Made.of(n, Made.map(to));
  }

  // ---- 1

  private static void newObject() {
    Check.in("3 points, no letters, START 0, no ENDS at first");
    PointMaps x = new PointMaps();
    Check.due("count(0)", 3, x.count(0));
    Check.due("count(1)", 0, x.count(1));
    Check.due("count(2)", 0, x.count(2));
    Check.due("count(3)", 0, x.count(3));
    PointMaps y = Made.some(3);
    y.points(3);
    String difference = Probe.difference(Probe.of(new PointMaps()), Probe.of(y));
    Check.so("just so behind points(3): " + difference, difference.isEmpty());
  }

  private static void pointsOfAMap() {
    Check.in("where point i goes, times n^i, added");
    for (int n = 1; n <= 6; n++) {
      for (int i = 0; i < n; i++) {
        PointMaps x = Made.of(n, (n - 1) * Made.power(n, i));
        for (int from = 0; from < n; from++) {
          x.set(0, from);
          x.set(1, 1 << (from == i ? n - 1 : 0));
          Check.due("n " + n + ", point " + from + ", only point " + i + " goes to the last", 1, x.taken(1));
        }
      }
    }
  }

  private static void emptyWordIsAnElement() {
    Check.in("the empty word is an element too");
    PointMaps x = Made.of(3, 0);
    Check.due("element 0 does nothing", Made.nothing(3), x.element(0, 0));
    Check.due("its word is empty", 0, x.element(0, 3));
    Check.due("it is found", 0, x.find(Made.nothing(3)));
    Check.due("it is one of two", 2, x.elements(0));
    Check.due("it is done ahead", 1, x.done(0, 1));
    Check.due("it is done behind", 1, x.done(1, 0));
    Check.due("round and back is no new one", 3, Made.ofRound().elements(0));
  }

  /** Numbered as they come: of element 0 with each letter, of element 1 with each letter, and so on. */
  private static void numbersOfElements() {
    Check.in("elements are numbered as they come");
    PointMaps x = Made.of(3, Made.turned(1, 3), Made.map(1, 0, 2), Made.map(0, 0, 2));
    Check.due("0 with letter 0", 1, x.find(Made.turned(1, 3)));
    Check.due("0 with letter 1", 2, x.find(Made.map(1, 0, 2)));
    Check.due("0 with the last letter", 3, x.find(Made.map(0, 0, 2)));
    Check.due("1 with letter 0", 4, x.find(Made.turned(2, 3)));
    Check.due("1 with letter 1", 5, x.find(Made.map(0, 2, 1)));
    Check.due("1 with the last letter", 6, x.find(Made.map(0, 2, 0)));
    Check.due("2 with letter 0", 7, x.find(Made.map(2, 1, 0)));
    Check.due("the last one of all", 26, x.done(x.elements(0) - 1, 0));
    Check.due("none behind it", BAD, x.element(27, 0));
  }

  private static void leastWords() {
    Check.in("the shortest word, of several the first by letters");
    PointMaps x = Made.of(3, 0, 0, Made.nothing(3), 13);
    Check.due("of two letters alike the first", 0, x.word(1, 0));
    Check.due("of one that does nothing the empty one", 0, x.element(0, 3));
    Check.due("the next number is the last letter's", 3, x.word(2, 0));
    PointMaps y = Made.of(4, Made.turned(1, 4), Made.turned(3, 4));
    int back = y.find(Made.turned(2, 4));
    Check.due("two letters, not more", 2, y.element(back, 3));
    Check.due("00 ahead of 11, the first", 0, y.word(back, 0));
    Check.due("00 ahead of 11, the second", 0, y.word(back, 1));
    PointMaps six = Made.of(6, Made.turned(1, 6));
    Check.due("the longest of a round", 5, six.element(5, 3));
    Check.due("its last letter", 0, six.word(5, 4));
    Check.due("no letter behind it", BAD, six.word(5, 5));
  }

  private static void rank() {
    Check.in("RANK, from 1 to n");
    for (int n = 1; n <= 6; n++) {
      PointMaps x = Made.of(n, 0);
      Check.due("the greatest, n " + n, n, x.element(0, 1));
      Check.due("the least, n " + n, 1, x.element(x.find(0), 1));
      PointMaps last = Made.of(n, Made.allTo(n - 1, n));
      Check.due("all to the last, n " + n, 1, last.element(last.find(Made.allTo(n - 1, n)), 1));
    }
    Check.due("one less than all", 5, chain(6).element(1, 1));
  }

  private static void kernel() {
    Check.in("KERNEL, from one heap to n");
    for (int n = 1; n <= 6; n++) {
      PointMaps x = Made.of(n, 0);
      Check.due("all alone, n " + n, Made.nothing(n), x.element(0, 2));
      Check.due("all in one, n " + n, 0, x.element(x.find(0), 2));
    }
    Check.due("a turn, all alone", Made.nothing(6), Made.of(6, Made.turned(1, 6)).element(1, 2));
    Check.due("the first and the last", Made.map(0, 1, 2, 3, 4, 0),
        Made.of(6, Made.map(5, 1, 2, 3, 4, 5)).element(1, 2));
    Check.due("the last two", Made.map(0, 1, 2, 3, 4, 4), Made.of(6, Made.map(0, 1, 2, 3, 5, 5)).element(1, 2));
  }

  private static void still() {
    Check.in("STILL");
    Check.due("what does nothing", 1, Made.ofRound().element(0, 4));
    Check.due("a round is not", 0, Made.ofRound().element(1, 4));
    Check.due("all to one is", 1, Made.of(3, 13).element(1, 4));
    Check.due("one step of a chain is not", 0, chain(3).element(1, 4));
    Check.due("none but the one that does nothing", 1, Made.ofRound().elements(1));
    Check.due("all are", 4, Made.ofBranches().elements(1));
    Check.due("the still one of itself", 1, Made.of(3, 13).element(1, 7));
    Check.due("the still one of what does nothing", 0, Made.of(3, 13).element(0, 7));
  }

  private static void tailAndRing() {
    Check.in("TAIL from 0 to 4, RING from 1 to 6");
    for (int n = 2; n <= 6; n++) {
      PointMaps x = chain(n);
      Check.due("TAIL of a chain of " + n, n - 2, x.element(1, 5));
      Check.due("RING of a chain of " + n, 1, x.element(1, 6));
      Check.due("the still one of a chain of " + n, x.find(0), x.element(1, 7));
      PointMaps round = Made.of(n, Made.turned(1, n));
      Check.due("TAIL of a round of " + n, 0, round.element(1, 5));
      Check.due("RING of a round of " + n, n, round.element(1, 6));
      Check.due("the still one of a round of " + n, 0, round.element(1, 7));
    }
    Check.due("TAIL of what does nothing", 0, new PointMaps().element(0, 5));
    Check.due("RING of what does nothing", 1, new PointMaps().element(0, 6));
    PointMaps both = Made.of(6, Made.map(1, 2, 0, 0, 3, 4));
    Check.due("TAIL into a ring of three", 2, both.element(1, 5));
    Check.due("RING of three", 3, both.element(1, 6));
    PointMaps near = Made.of(6, Made.map(1, 2, 3, 4, 0, 0));
    Check.due("TAIL, if it comes again itself", 0, near.element(1, 5));
    Check.due("RING, if it comes again itself", 5, near.element(1, 6));
    Check.due("RING of rounds of two and three", 6, Made.of(5, Made.map(1, 0, 3, 4, 2)).element(1, 6));
    Check.due("the greatest RING, if all are 1", 1, chain(6).elements(3));
    Check.due("the greatest RING, six", 6, Made.of(5, Made.map(1, 0, 3, 4, 2)).elements(3));
    Check.due("the greatest RING, the last element's alone", 2, Made.of(2, 0, 3, Made.map(1, 0)).elements(3));
  }

  private static void centre() {
    Check.in("CENTRE");
    Check.due("what does nothing is there", 1, Made.ofAllThree().elements(2));
    Check.due("of a round all are there", 6, Made.of(6, Made.turned(1, 6)).elements(2));
    int exchange = Made.map(1, 0);
    Check.due("all to 0 is not, by the first letter", 1, Made.of(2, exchange, 0).elements(2));
    Check.due("all to 0 is not, by the last letter", 1, Made.of(2, 0, exchange).elements(2));
    Check.due("none of the two, by the last of four", 1, Made.of(2, 0, 0, 0, exchange).elements(2));
  }

  // ---- 2

  private static void rightAndLeftBoxes() {
    Check.in("right with an element behind, left with one ahead");
    PointMaps x = Made.ofConstants();
    Check.due("constants, right ones", 2, x.boxes(1));
    Check.due("constants, left ones", 3, x.boxes(2));
    Check.due("constants in one right one", x.box(1, 1), x.box(2, 1));
    Check.so("constants not in one left one", x.box(1, 2) != x.box(2, 2));
    PointMaps y = Made.ofOneImage();
    Check.due("one image, right ones", 3, y.boxes(1));
    Check.due("one image, left ones", 2, y.boxes(2));
    Check.due("a way there, but none back, right", 3, Made.ofChain().boxes(1));
    Check.due("a way there, but none back, left", 3, Made.ofChain().boxes(2));
  }

  private static void boxes() {
    Check.in("boxes are numbered by their least elements");
    PointMaps x = Made.ofAllThree();
    for (int kind = 0; kind < 4; kind++) {
      int next = 0;
      for (int e = 0; e < 27; e++) {
        int number = x.box(e, kind);
        Check.so("kind " + kind + ", element " + e, number >= 0 && number <= next);
        next = Math.max(next, number + 1);
      }
      Check.due("kind " + kind + ", how many", next, x.boxes(kind));
    }
  }

  private static void regular() {
    Check.in("regular, if a still one is there");
    PointMaps x = Made.ofChain();
    Check.due("the first", 1, x.about(0, 4));
    Check.due("without a still one", 0, x.about(1, 4));
    Check.due("its groups", 0, x.about(1, 5));
    Check.due("the last", 1, x.about(2, 4));
    Check.due("regular ones", 2, x.boxes(4));
    Check.due("groups", 2, x.boxes(5));
    Check.due("more cells than groups", 9, Made.ofAllThree().about(1, 3));
    Check.due("groups", 6, Made.ofAllThree().about(1, 5));
  }

  private static void belowAndIdeal() {
    Check.in("each box is below itself, each element is in its ideal");
    PointMaps x = Made.ofBranches();
    for (int i = 0; i < 4; i++) {
      Check.due("below itself, " + i, 1, x.below(i, i));
      Check.due("the last below " + i, 1, x.below(3, i));
      Check.due(i + " below the first", 1, x.below(i, 0));
    }
    Check.due("neither below the other", 0, x.below(1, 2));
    Check.due("nor the other way", 0, x.below(2, 1));
    Check.due("the least ideal is the element alone", 1, x.ideal(3));
    Check.due("the greatest is all", 4, x.ideal(0));
  }

  private static void leastBox() {
    Check.in("the least box");
    Check.due("is the only one", 0, Made.ofRound().boxes(6));
    Check.due("has all", 3, Made.ofRound().boxes(7));
    Check.due("is the last one", 3, Made.ofBranches().boxes(6));
    Check.due("has one", 1, Made.ofBranches().boxes(7));
    Check.due("is not the last one", 9, Made.enough().boxes(6));
    Check.due("is not the last one, its elements", 6, Made.enough().boxes(7));
    Check.due("is the last one of a chain", 2, Made.ofChain().boxes(6));
    Check.due("is the first letter's, not the last one", 1, Made.of(3, 0, Made.map(0, 0, 2)).boxes(6));
  }

  private static void sorts() {
    Check.in("sorts that one element alone breaks");
    Check.due("0: all but two commute", 0, Made.of(3, Made.map(0, 0, 2), Made.map(1, 1, 2)).sort(0));
    Check.due("1: but for one right box", 0, Made.ofConstants().sort(1));
    Check.due("1: so", 1, Made.ofOneImage().sort(1));
    Check.due("2: but for one left box", 0, Made.ofOneImage().sort(2));
    Check.due("2: so", 1, Made.ofConstants().sort(2));
    Check.due("3: but for one cell of two", 0, Made.of(2, Made.map(1, 0), 0).sort(3));
    Check.due("3: so", 1, Made.ofConstants().sort(3));
    Check.due("4: but for one box", 0, Made.ofChain().sort(4));
    Check.due("4: so", 1, Made.ofAllThree().sort(4));
    Check.due("5: but for two still ones", 0, Made.ofConstants().sort(5));
    Check.due("5: but for the last point", 0, Made.ofOneImage().sort(5));
    Check.due("5: but for the first point", 0, Made.of(3, Made.map(1, 1, 2), Made.map(2, 1, 2)).sort(5));
    Check.due("5: so", 1, Made.ofBranches().sort(5));
    Check.due("6: but for one element", 0, Made.of(2, 0).sort(6));
    Check.due("6: so", 1, Made.of(6, Made.turned(1, 6)).sort(6));
  }

  private static void equation() {
    Check.in("equations that none, one, all elements solve");
    PointMaps x = Made.of(2, Made.map(1, 0), 0);
    Check.due("none, a x = b", 0, x.solve(2, 0, 1, 0));
    Check.due("none, the least", NONE, x.solve(2, 0, 1, 1));
    Check.due("none, x a = b", 0, x.solve(2, 3, 0, 0));
    Check.due("none, the least", NONE, x.solve(2, 3, 0, 1));
    Check.due("one", 1, x.solve(0, 3, 1, 0));
    Check.due("the last one is the least", 3, x.solve(0, 3, 1, 1));
    Check.due("all, x a = b", 4, x.solve(2, 2, 0, 0));
    Check.due("not all, a x = b", 2, x.solve(2, 2, 1, 0));
    Check.due("element 0 is the least", 0, x.solve(2, 2, 0, 1));
  }

  // ---- 3

  private static void together() {
    Check.in("TOGETHER, from the empty word to 25 letters");
    PointMaps x = Made.of(6, Made.turned(1, 6), Made.map(0, 1, 2, 3, 4, 0));
    for (int point = 0; point < 6; point++) {
      Check.due("one point is one already, " + point, 0, x.together(1 << point, -1));
      Check.due("no letter of the empty word, " + point, BAD, x.together(1 << point, 0));
    }
    Check.due("the longest of six points", 25, x.together(63, -1));
    for (int i = 0; i < 25; i++) {
      Check.due("its letter " + i, i % 6 == 0 ? 1 : 0, x.together(63, i));
    }
    Check.due("no letter behind it", BAD, x.together(63, 25));
    Check.due("of two points", 1, x.together(33, -1));
    Check.due("NONE", NONE, Made.of(6, Made.turned(1, 6)).together(63, -1));
    PointMaps two = Made.of(3, Made.nothing(3), 26, 0);
    Check.due("of several the first by letters", 1, two.together(7, 0));
  }

  private static void lowest() {
    Check.in("LOWEST, from 0 to 6");
    for (int n = 1; n <= 6; n++) {
      Check.due("none comes together, n " + n, n, Made.of(n, Made.turned(1, n)).lowest((1 << n) - 1));
      Check.due("all come together, n " + n, 1, Made.of(n, 0).lowest((1 << n) - 1));
      Check.due("the empty set, n " + n, 0, Made.of(n, 0).lowest(0));
    }
    Check.due("two stay", 2, Made.of(4, Made.map(0, 0, 2, 2)).lowest(15));
  }

  private static void apart() {
    Check.in("APART, from no pair to all");
    for (int n = 1; n <= 6; n++) {
      Check.due("all pairs, n " + n, n * (n - 1) / 2, Made.of(n, Made.turned(1, n)).apart());
      Check.due("no pair, all come to the first, n " + n, 0, Made.of(n, 0).apart());
      Check.due("no pair, all come to the last, n " + n, 0, Made.of(n, Made.allTo(n - 1, n)).apart());
    }
    Check.due("all but one", 14, Made.of(6, Made.map(0, 1, 2, 3, 4, 4)).apart());
    Check.due("a long way together", 0,
        Made.of(6, Made.turned(1, 6), Made.map(0, 1, 2, 3, 4, 0)).apart());
  }

  private static void takenAsOne() {
    Check.in("TAKEN AS ONE, from all alone to all in one");
    for (int n = 1; n <= 6; n++) {
      PointMaps x = Made.of(n, Made.turned(1, n));
      Check.due("a point with itself, n " + n, Made.nothing(n), x.cut(n - 1, n - 1));
      Check.due("two neighbours, n " + n, 0, x.cut(0, (n > 1 ? 1 : 0)));
    }
    PointMaps six = Made.of(6, Made.turned(1, 6));
    Check.due("in twos", Made.map(0, 1, 2, 0, 1, 2), six.cut(0, 3));
    Check.due("in threes", Made.map(0, 1, 0, 1, 0, 1), six.cut(1, 5));
    Check.due("cuts of a round of six", 4, six.cuts());
    Check.due("cuts of a round of five, none but both ends", 2, Made.of(5, Made.turned(1, 5)).cuts());
    Check.due("cuts of one point, both ends are one", 1, Made.of(1, 0).cuts());
    Check.due("all cuts", 203, Made.of(6, Made.nothing(6)).cuts());
    PointMaps chain = Made.of(6, Made.map(1, 2, 3, 4, 5, 5));
    Check.due("along a whole chain", 0, chain.cut(0, 5));
    Check.due("at its end", Made.map(0, 1, 2, 3, 4, 4), chain.cut(4, 5));
  }

  private static void twists() {
    Check.in("TWISTS, from the one in which each stays to all");
    for (int n = 1; n <= 6; n++) {
      Check.due("of a round, n " + n, n, Made.of(n, Made.turned(1, n)).twists());
    }
    Check.due("each stays", 1, Made.ofAllThree().twists());
    Check.due("all", 720, Made.of(6, Made.nothing(6)).twists());
    Check.due("all but one point", 120, Made.of(6, 0).twists());
    Check.due("a chain", 1, chain(6).twists());
  }

  // ---- 4

  private static void startAndEnds() {
    Check.in("START 0 at first, ENDS 0 at first");
    PointMaps x = Made.of(3, Made.turned(1, 3));
    Check.due("no word is taken", 0, x.taken(0));
    x.set(1, 1);
    Check.due("START is 0", 1, x.taken(0));
    x.set(0, 2);
    Check.due("START is the last", 0, x.taken(0));
    x.set(1, 4);
    Check.due("the last is an end", 1, x.taken(0));
    x.set(1, 7);
    Check.due("all are ends", 1, x.taken(40));
    x.set(1, 0);
    Check.due("none is an end", 0, x.taken(40));
    x.drop();
    Check.due("START stays behind drop", 2, x.count(2));
  }

  private static void taken() {
    Check.in("words of length 0 to 40");
    PointMaps x = Made.machine(0, 2, 5, Made.turned(1, 5));
    for (int length = 0; length <= 40; length++) {
      Check.due("taken(" + length + ")", length % 5 == 1 ? 1 : 0, x.taken(length));
    }
    Check.due("two letters alike are two words", 2, Made.machine(0, 2, 2, 1, 1).taken(1));
    Check.due("one below them", BAD, x.taken(-1));
    Check.due("one above them", BAD, x.taken(41));
  }

  private static void leastMachine() {
    Check.in("THE LEAST MACHINE, from one heap to six");
    int round = Made.turned(1, 6);
    Check.due("no ends", 1, Made.machine(0, 0, 6, round).least());
    Check.due("all ends", 1, Made.machine(0, 63, 6, round).least());
    Check.due("all but one", 6, Made.machine(0, 62, 6, round).least());
    Check.due("one", 6, Made.machine(5, 1, 6, round).least());
    Check.due("START alone", 1, Made.machine(5, 1, 6, Made.map(1, 2, 3, 4, 5, 5)).least());
    Check.due("START and the last", 2, Made.machine(4, 32, 6, Made.map(1, 2, 3, 4, 5, 5)).least());
    Check.due("all are come to, the last by five letters", 6,
        Made.machine(0, 32, 6, Made.map(1, 2, 3, 4, 5, 5)).least());
    Check.due("one end that none comes to", 1, Made.machine(0, 32, 6, Made.map(1, 2, 3, 4, 0, 5)).least());
  }

  private static void parting() {
    Check.in("PARTING, from the empty word to four letters");
    PointMaps x = Made.machine(0, 32, 6, Made.map(1, 2, 3, 4, 5, 5));
    for (int state = 0; state < 5; state++) {
      Check.due("of " + state + " and the next", 4 - state, x.parting(state, state + 1, -1));
      Check.due("of the next and " + state, 4 - state, x.parting(state + 1, state, -1));
      for (int i = 0; i < 4 - state; i++) {
        Check.due("its letter " + i, 0, x.parting(state, state + 1, i));
      }
      Check.due("no letter behind it", BAD, x.parting(state, state + 1, 4 - state));
      Check.due("of a state and itself", NONE, x.parting(state, state, -1));
    }
    Check.due("alike, both are ends", NONE, Made.machine(0, 6, 3, Made.map(1, 1, 2)).parting(1, 2, -1));
    Check.due("alike, neither is", NONE, Made.machine(0, 0, 3, Made.map(1, 1, 2)).parting(1, 2, -1));
    Check.due("those that START does not come to", 0, Made.machine(0, 4, 3).parting(1, 2, -1));
  }

  private static void meanings() {
    Check.in("MEANINGS, from one to as many as elements");
    PointMaps x = Made.machine(0, 0, 6, Made.turned(1, 6));
    Check.due("no ends", 1, x.meanings(0));
    x.set(1, 63);
    Check.due("all ends", 1, x.meanings(0));
    x.set(1, 9);
    Check.due("half of them", 3, x.meanings(0));
    x.set(1, 1);
    Check.due("all of them", 6, x.meanings(0));
    Check.due("the last state alone is another", 2,
        Made.machine(0, 32, 6, Made.map(5, 1, 2, 3, 4, 5)).meanings(0));
  }

  private static void starless() {
    Check.in("STARLESS, none has a RING above 1");
    Check.due("all have 1", 1, Made.machine(0, 1, 2, 0, 3).meanings(1));
    Check.due("one has 2", 0, Made.machine(0, 1, 2, Made.map(1, 0)).meanings(1));
    Check.due("the last letter has 2", 0, Made.machine(0, 1, 2, 0, 3, 2, Made.map(1, 0)).meanings(1));
    Check.due("a word of two letters has 2", 0,
        Made.machine(0, 1, 3, Made.map(1, 0, 0), Made.map(0, 2, 0)).meanings(1));
    Check.due("a ring among alike ones is none", 1, Made.machine(0, 3, 2, Made.map(1, 0)).meanings(1));
    Check.due("a ring that START does not come to is none", 1,
        Made.machine(0, 2, 3, Made.map(0, 2, 1)).meanings(1));
    Check.due("a ring behind a tail", 0, Made.machine(0, 2, 3, Made.map(1, 2, 1)).meanings(1));
  }
}
