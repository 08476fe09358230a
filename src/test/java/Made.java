/** Objects to ask, each new. */
final class Made {
  /** These come to just 1500 elements, and to just 1501. */
  static final int[] JUST_ENOUGH = {45530, 5056, 16869};
  static final int[] ONE_TOO_MANY = {28590, 44569, 26213, 43494};

  /** Without an end in what can be told to a call. */
  static final int LEAST_INT = -2147483648, GREATEST_INT = 2147483647;

  /** A map by where its points go. */
  static int map(int... to) {
    int number = 0;
    for (int i = to.length - 1; i >= 0; i--) {
      number = number * to.length + to[i];
    }
    return number;
  }

  /** The map that takes each of n points to one point. */
  static int allTo(int point, int n) {
    int[] to = new int[n];
    java.util.Arrays.fill(to, point);
    return map(to);
  }

  /** The map of n points that does nothing. */
  static int nothing(int n) {
    return turned(0, n);
  }

  /** The map that takes point i to point i + by, behind the last one to 0 again. */
  static int turned(int by, int n) {
    int[] to = new int[n];
    for (int i = 0; i < n; i++) {
      to[i] = (i + by) % n;
    }
    return map(to);
  }

  static int power(int base, int times) {
    int product = 1;
    for (int i = 0; i < times; i++) {
      product *= base;
    }
    return product;
  }

  static PointMaps of(int n, int... maps) {
    PointMaps x = new PointMaps();
    x.points(n);
    for (int map : maps) {
      x.letter(map);
    }
    return x;
  }

  static PointMaps machine(int start, int ends, int n, int... maps) {
    PointMaps x = of(n, maps);
    x.set(0, start);
    x.set(1, ends);
    return x;
  }

  /** The same, asked for all that it may keep: what it answers then must be the same too. */
  static PointMaps asked(PointMaps x) {
    x.elements(3);
    x.boxes(7);
    x.ideal(0);
    x.together(1, -1);
    x.parting(0, 0, -1);
    x.taken(1);
    x.least();
    x.meanings(1);
    return x;
  }

  /** n points, two letters (all points round, all to 0), START the last one, ENDS the first one. */
  static PointMaps some(int n) {
    return machine(n - 1, 1, n, turned(1, n), 0);
  }

  /** Elements 0 nothing, 1 exchange, 2 all to 0, 3 all to 1. */
  static PointMaps ofTwo() {
    return of(2, map(1, 0), map(0, 0));
  }

  /** Elements 0 nothing, 1 all to 0, 2 all to 1: each does the same behind all others. */
  static PointMaps ofConstants() {
    return of(2, map(0, 0), map(1, 1));
  }

  /** Elements 0 nothing, 1 and 2 onto 0 and 1: each does the same ahead of the other. */
  static PointMaps ofOneImage() {
    return of(3, map(0, 1, 0), map(0, 1, 1));
  }

  /** Elements 0 nothing, 1, 2, and 3 all to 0, which is both; none of 1 and 2 comes of the other. */
  static PointMaps ofBranches() {
    return of(3, map(0, 0, 2), map(0, 1, 0));
  }

  /** Elements 0 nothing, 1, which is not still, 2 all to 0. */
  static PointMaps ofChain() {
    return of(3, map(0, 0, 1));
  }

  /** Elements 0 nothing, 1 and 2, round and back. */
  static PointMaps ofRound() {
    return of(3, map(1, 2, 0));
  }

  /** All 27 maps of three points. */
  static PointMaps ofAllThree() {
    return of(3, map(1, 2, 0), map(1, 0, 2), map(0, 0, 2));
  }

  static PointMaps enough() {
    return of(6, JUST_ENOUGH);
  }

  /** All six states are unlike and come of START, which is not 0. */
  static PointMaps tooMany() {
    return machine(4, 1, 6, ONE_TOO_MANY);
  }

  private Made() {
  }
}
