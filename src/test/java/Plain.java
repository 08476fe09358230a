import java.math.BigInteger;
import java.util.ArrayList;
import java.util.Arrays;
import java.util.BitSet;
import java.util.HashMap;
import java.util.HashSet;
import java.util.List;
import java.util.Map;
import java.util.Set;
import java.util.TreeMap;
import java.util.TreeSet;
import java.util.function.Function;

/** The document's terms, each worked out anew from its own words, with no thought of time or room. */
final class Plain {
  static final int BAD = -1, FULL = -3, SPENT = -5, NONE = -9;

  int n = 3;
  int start = 0;
  int ends = 0;
  final List<int[]> letters = new ArrayList<>();

  private List<List<Integer>> maps;
  private List<String> words;
  private Map<List<Integer>, Integer> numbers;
  private int[][] product;
  private BitSet[] behind, ahead, both;
  private int[][] boxNumber;

  // ---- points, letters

  int points(int v) {
    if (v < 1 || v > 6) return BAD;
    int was = n;
    n = v;
    start = 0;
    ends = 0;
    letters.clear();
    forget();
    return was;
  }

  int letter(int map) {
    if (map < 0 || map >= pow()) return BAD;
    if (letters.size() == 4) return FULL;
    letters.add(ofNumber(map));
    forget();
    return letters.size() - 1;
  }

  int drop() {
    if (letters.isEmpty()) return BAD;
    letters.remove(letters.size() - 1);
    forget();
    return letters.size();
  }

  private void forget() {
    maps = null;
    product = null;
    behind = null;
    boxNumber = null;
  }

  int pow() {
    return (int) Math.round(Math.pow(n, n));
  }

  private int[] ofNumber(int number) {
    int[] map = new int[n];
    for (int i = 0; i < n; i++) {
      map[i] = number / (int) Math.round(Math.pow(n, i)) % n;
    }
    return map;
  }

  private int toNumber(List<Integer> map) {
    int number = 0;
    for (int i = 0; i < n; i++) {
      number += map.get(i) * (int) Math.round(Math.pow(n, i));
    }
    return number;
  }

  private List<Integer> after(List<Integer> a, List<Integer> b) {
    List<Integer> both = new ArrayList<>();
    for (int to : a) both.add(b.get(to));
    return both;
  }

  private List<Integer> ofWord(String word) {
    List<Integer> map = new ArrayList<>();
    for (int i = 0; i < n; i++) {
      int at = i;
      for (char c : word.toCharArray()) at = letters.get(c - '0')[at];
      map.add(at);
    }
    return map;
  }

  private boolean spent() {
    if (maps == null) list();
    return maps.size() > 1500;
  }

  /** All words of one length, made of those of the length before that were new, in the order of their signs. */
  private void list() {
    maps = new ArrayList<>();
    words = new ArrayList<>();
    numbers = new HashMap<>();
    TreeSet<String> now = new TreeSet<>();
    now.add("");
    while (!now.isEmpty() && maps.size() <= 1500) {
      TreeSet<String> next = new TreeSet<>();
      for (String w : now) {
        List<Integer> map = ofWord(w);
        if (numbers.containsKey(map)) continue;
        numbers.put(map, maps.size());
        maps.add(map);
        words.add(w);
        for (int k = 0; k < letters.size(); k++) next.add(w + k);
      }
      now = next;
    }
  }

  int many() {
    return maps.size();
  }

  private boolean has(int e) {
    return e >= 0 && e < maps.size();
  }

  private int times(int a, int b) {
    if (product == null) {
      product = new int[many()][many()];
      for (int x = 0; x < many(); x++) {
        for (int y = 0; y < many(); y++) product[x][y] = numbers.get(after(maps.get(x), maps.get(y)));
      }
    }
    return product[a][b];
  }

  private boolean still(int e) {
    return times(e, e) == e;
  }

  /** The powers from the first on, and behind them the place to which they come back. */
  private List<Integer> powers(int e) {
    List<Integer> row = new ArrayList<>();
    int p = e;
    while (!row.contains(p)) {
      row.add(p);
      p = times(p, e);
    }
    row.add(row.indexOf(p));
    return row;
  }

  private int tail(int e) {
    List<Integer> row = powers(e);
    return row.get(row.size() - 1);
  }

  private int ring(int e) {
    List<Integer> row = powers(e);
    return row.size() - 1 - row.get(row.size() - 1);
  }

  private boolean central(int e) {
    List<Integer> m = maps.get(e);
    for (int[] l : letters) {
      for (int i = 0; i < n; i++) if (m.get(l[i]) != l[m.get(i)]) return false;
    }
    return true;
  }

  int elements(int what) {
    if (what < 0 || what > 3) return BAD;
    if (spent()) return SPENT;
    int some = 0;
    for (int e = 0; e < many(); e++) {
      if (what == 0) some++;
      if (what == 1 && still(e)) some++;
      if (what == 2 && central(e)) some++;
      if (what == 3) some = Math.max(some, ring(e));
    }
    return some;
  }

  int element(int e, int what) {
    if (what < 0 || what > 7) return BAD;
    if (spent()) return SPENT;
    if (!has(e)) return BAD;
    List<Integer> m = maps.get(e);
    if (what == 0) return toNumber(m);
    if (what == 1) return new HashSet<>(m).size();
    if (what == 2) {
      List<Integer> kernel = new ArrayList<>();
      for (int i = 0; i < n; i++) kernel.add(m.indexOf(m.get(i)));
      return toNumber(kernel);
    }
    if (what == 3) return words.get(e).length();
    if (what == 4) return still(e) ? 1 : 0;
    if (what == 5) return tail(e);
    if (what == 6) return ring(e);
    for (int p = e; ; p = times(p, e)) if (still(p)) return p;
  }

  int word(int e, int i) {
    if (spent()) return SPENT;
    if (!has(e) || i < 0 || i >= words.get(e).length()) return BAD;
    return words.get(e).charAt(i) - '0';
  }

  int find(int map) {
    if (map < 0 || map >= pow()) return BAD;
    if (spent()) return SPENT;
    for (int e = 0; e < many(); e++) if (toNumber(maps.get(e)) == map) return e;
    return NONE;
  }

  int done(int a, int b) {
    if (spent()) return SPENT;
    return has(a) && has(b) ? times(a, b) : BAD;
  }

  // ---- boxes

  private void draw() {
    if (boxNumber != null) return;
    int m = many();
    behind = new BitSet[m];
    ahead = new BitSet[m];
    both = new BitSet[m];
    for (int a = 0; a < m; a++) {
      behind[a] = new BitSet();
      ahead[a] = new BitSet();
      both[a] = new BitSet();
      for (int x = 0; x < m; x++) {
        behind[a].set(times(a, x));
        ahead[a].set(times(x, a));
      }
    }
    for (int a = 0; a < m; a++) {
      for (int c = ahead[a].nextSetBit(0); c >= 0; c = ahead[a].nextSetBit(c + 1)) both[a].or(behind[c]);
    }
    boxNumber = new int[4][m];
    for (int kind = 0; kind < 4; kind++) {
      int found = 0;
      for (int e = 0; e < m; e++) {
        int f = 0;
        while (!inOne(kind, e, f)) f++;
        boxNumber[kind][e] = f == e ? found++ : boxNumber[kind][f];
      }
    }
  }

  private boolean inOne(int kind, int e, int f) {
    if (kind == 1) return behind[e].get(f) && behind[f].get(e);
    if (kind == 2) return ahead[e].get(f) && ahead[f].get(e);
    if (kind == 0) return both[e].get(f) && both[f].get(e);
    return inOne(1, e, f) && inOne(2, e, f);
  }

  /** The numbers of a kind that elements of box i (all boxes: -1) have; the still ones alone, if told so. */
  private Set<Integer> kinds(int kind, int i, boolean stillAlone) {
    Set<Integer> found = new HashSet<>();
    for (int e = 0; e < many(); e++) {
      if ((i == -1 || boxNumber[0][e] == i) && (!stillAlone || still(e))) found.add(boxNumber[kind][e]);
    }
    return found;
  }

  private BitSet inBox(int i) {
    BitSet found = new BitSet();
    for (int e = 0; e < many(); e++) if (boxNumber[0][e] == i) found.set(e);
    return found;
  }

  private boolean isBelow(int i, int j) {
    return both[inBox(j).nextSetBit(0)].get(inBox(i).nextSetBit(0));
  }

  private int leastBox() {
    for (int i : kinds(0, -1, false)) {
      boolean all = true;
      for (int j : kinds(0, -1, false)) all &= isBelow(i, j);
      if (all) return i;
    }
    throw new IllegalStateException("no least box");
  }

  int boxes(int what) {
    if (what < 0 || what > 7) return BAD;
    if (spent()) return SPENT;
    draw();
    if (what < 4) return kinds(what, -1, false).size();
    if (what == 4) return kinds(0, -1, true).size();
    if (what == 5) return kinds(3, -1, true).size();
    return what == 6 ? leastBox() : inBox(leastBox()).cardinality();
  }

  int box(int e, int what) {
    if (what < 0 || what > 3) return BAD;
    if (spent()) return SPENT;
    draw();
    return has(e) ? boxNumber[what][e] : BAD;
  }

  private boolean hasBox(int i) {
    return i >= 0 && i < kinds(0, -1, false).size();
  }

  int about(int i, int what) {
    if (what < 0 || what > 7) return BAD;
    if (spent()) return SPENT;
    draw();
    if (!hasBox(i)) return BAD;
    int least = inBox(i).nextSetBit(0);
    if (what == 0) return inBox(i).cardinality();
    if (what <= 3) return kinds(what, i, false).size();
    if (what == 4) return kinds(0, i, true).size();
    if (what == 5) return kinds(3, i, true).size();
    return what == 6 ? new HashSet<>(maps.get(least)).size() : least;
  }

  int below(int i, int j) {
    if (spent()) return SPENT;
    draw();
    if (!hasBox(i) || !hasBox(j)) return BAD;
    return isBelow(i, j) ? 1 : 0;
  }

  int ideal(int e) {
    if (spent()) return SPENT;
    draw();
    return has(e) ? both[e].cardinality() : BAD;
  }

  int sort(int what) {
    if (what < 0 || what > 6) return BAD;
    if (spent()) return SPENT;
    draw();
    boolean so = true;
    if (what >= 1 && what <= 3) so = kinds(what, -1, false).size() == many();
    if (what == 4) so = kinds(0, -1, true).size() == kinds(0, -1, false).size();
    if (what == 6) so = kinds(3, -1, false).size() == 1;
    for (int a = 0; a < many() && (what == 0 || what == 5); a++) {
      for (int b = 0; b < many(); b++) {
        if (what == 0 || still(a) && still(b)) so &= times(a, b) == times(b, a);
      }
    }
    return so ? 1 : 0;
  }

  int solve(int a, int b, int isBehind, int what) {
    if (isBehind < 0 || isBehind > 1 || what < 0 || what > 1) return BAD;
    if (spent()) return SPENT;
    if (!has(a) || !has(b)) return BAD;
    BitSet found = new BitSet();
    for (int x = 0; x < many(); x++) if ((isBehind == 1 ? times(a, x) : times(x, a)) == b) found.set(x);
    if (what == 0) return found.cardinality();
    return found.isEmpty() ? NONE : found.nextSetBit(0);
  }

  // ---- sets of points

  private int goes(int set, int k) {
    int image = 0;
    for (int i = 0; i < n; i++) if ((set & 1 << i) != 0) image |= 1 << letters.get(k)[i];
    return image;
  }

  /** Of all that one thing comes to, the first of the shortest words, length by length. */
  private <T> Map<T, String> firstWords(T from, List<Function<T, T>> steps) {
    Map<T, String> all = new HashMap<>();
    Map<T, String> now = new HashMap<>();
    now.put(from, "");
    while (!now.isEmpty()) {
      all.putAll(now);
      Map<T, String> next = new HashMap<>();
      for (Map.Entry<T, String> e : now.entrySet()) {
        for (int k = 0; k < steps.size(); k++) {
          T to = steps.get(k).apply(e.getKey());
          if (!all.containsKey(to)) next.merge(to, e.getValue() + k, (a, b) -> a.compareTo(b) < 0 ? a : b);
        }
      }
      now = next;
    }
    return all;
  }

  private Map<Integer, String> setWords(int set) {
    List<Function<Integer, Integer>> steps = new ArrayList<>();
    for (int k = 0; k < letters.size(); k++) {
      int letter = k;
      steps.add(s -> goes(s, letter));
    }
    return firstWords(set, steps);
  }

  private Map<List<Integer>, String> pairWords(int a, int b) {
    List<Function<List<Integer>, List<Integer>>> steps = new ArrayList<>();
    for (int[] l : letters) steps.add(p -> Arrays.asList(l[p.get(0)], l[p.get(1)]));
    return firstWords(Arrays.asList(a, b), steps);
  }

  private static String firstOf(List<String> some) {
    String first = null;
    for (String w : some) {
      if (first == null || w.length() < first.length() || w.length() == first.length() && w.compareTo(first) < 0) {
        first = w;
      }
    }
    return first;
  }

  private static int tell(String word, int i) {
    if (i == -1) return word == null ? NONE : word.length();
    return word == null || i >= word.length() ? BAD : word.charAt(i) - '0';
  }

  int together(int set, int i) {
    if (set < 1 || set >= 1 << n || i < -1) return BAD;
    List<String> some = new ArrayList<>();
    setWords(set).forEach((s, w) -> {
      if (Integer.bitCount(s) == 1) some.add(w);
    });
    return tell(firstOf(some), i);
  }

  int lowest(int set) {
    if (set < 0 || set >= 1 << n) return BAD;
    int least = 99;
    for (int s : setWords(set).keySet()) least = Math.min(least, Integer.bitCount(s));
    return least;
  }

  int apart() {
    int found = 0;
    for (int a = 0; a < n; a++) for (int b = 0; b < a; b++) if (lowest(1 << a | 1 << b) == 2) found++;
    return found;
  }

  private boolean holds(int[] heaps) {
    for (int[] l : letters) {
      for (int a = 0; a < n; a++) {
        for (int b = 0; b < n; b++) if (heaps[a] == heaps[b] && heaps[l[a]] != heaps[l[b]]) return false;
      }
    }
    return true;
  }

  /** All cuts by which points can be taken as one, each told by the least points of its heaps. */
  private List<int[]> heldCuts() {
    List<int[]> found = new ArrayList<>();
    for (int number = 0; number < pow(); number++) {
      int[] heaps = ofNumber(number);
      boolean isCut = true;
      for (int i = 0; i < n; i++) isCut &= heaps[i] <= i && heaps[heaps[i]] == heaps[i];
      if (isCut && holds(heaps)) found.add(heaps);
    }
    return found;
  }

  /** The least cut is that in which just those are in one heap that are so in all cuts that hold and join the two. */
  int cut(int a, int b) {
    if (a < 0 || b < 0 || a >= n || b >= n) return BAD;
    List<int[]> held = heldCuts();
    List<Integer> least = new ArrayList<>();
    for (int i = 0; i < n; i++) {
      for (int j = 0; j <= i; j++) {
        boolean always = true;
        for (int[] heaps : held) if (heaps[a] == heaps[b]) always &= heaps[i] == heaps[j];
        if (always) {
          least.add(j);
          break;
        }
      }
    }
    return toNumber(least);
  }

  int cuts() {
    return heldCuts().size();
  }

  int twists() {
    int found = 0;
    for (int number = 0; number < pow(); number++) {
      int[] t = ofNumber(number);
      boolean is = Arrays.stream(t).distinct().count() == n;
      for (int[] l : letters) for (int i = 0; i < n && is; i++) is = l[t[i]] == t[l[i]];
      if (is) found++;
    }
    return found;
  }

  // ---- machines

  int set(int what, int v) {
    if (what < 0 || what > 1 || v < 0 || v >= (what == 0 ? n : 1 << n)) return BAD;
    int was = what == 0 ? start : ends;
    if (what == 0) start = v;
    else ends = v;
    return was;
  }

  private boolean end(int s) {
    return (ends & 1 << s) != 0;
  }

  private BigInteger wordsFrom(int s, int length, Map<Integer, BigInteger> known) {
    if (length == 0) return end(s) ? BigInteger.ONE : BigInteger.ZERO;
    BigInteger had = known.get(length * 6 + s);
    if (had != null) return had;
    BigInteger sum = BigInteger.ZERO;
    for (int[] l : letters) sum = sum.add(wordsFrom(l[s], length - 1, known));
    known.put(length * 6 + s, sum);
    return sum;
  }

  int taken(int length) {
    if (length < 0 || length > 40) return BAD;
    return wordsFrom(start, length, new TreeMap<>()).mod(BigInteger.valueOf(1000000007)).intValue();
  }

  private String part(int a, int b) {
    List<String> some = new ArrayList<>();
    pairWords(a, b).forEach((p, w) -> {
      if (end(p.get(0)) != end(p.get(1))) some.add(w);
    });
    return firstOf(some);
  }

  private Set<Integer> come() {
    Set<Integer> found = new TreeSet<>();
    for (List<Integer> p : pairWords(start, start).keySet()) found.add(p.get(0));
    return found;
  }

  private int heap(int s) {
    for (int t : come()) if (part(s, t) == null) return t;
    throw new IllegalStateException("a state is alike to itself");
  }

  int least() {
    Set<Integer> heaps = new HashSet<>();
    for (int s : come()) heaps.add(heap(s));
    return heaps.size();
  }

  int parting(int a, int b, int i) {
    if (a < 0 || b < 0 || a >= n || b >= n || i < -1) return BAD;
    return tell(part(a, b), i);
  }

  int meanings(int what) {
    if (what < 0 || what > 1) return BAD;
    if (spent()) return SPENT;
    Map<Integer, Integer> heapOf = new TreeMap<>();
    for (int s : come()) heapOf.put(s, heap(s));
    Set<Map<Integer, Integer>> unlike = new HashSet<>();
    for (List<Integer> m : maps) {
      Map<Integer, Integer> acts = new HashMap<>();
      heapOf.forEach((s, h) -> acts.put(h, heapOf.get(m.get(h))));
      unlike.add(acts);
    }
    if (what == 0) return unlike.size();
    for (Map<Integer, Integer> acts : unlike) {
      for (int h : acts.keySet()) {
        int late = h;
        for (int t = 0; t < 60; t++) late = acts.get(late);
        if (!acts.get(late).equals(late)) return 0;
      }
    }
    return 1;
  }

  int count(int what) {
    if (what < 0 || what > 3) return BAD;
    return new int[] {n, letters.size(), start, ends}[what];
  }
}
