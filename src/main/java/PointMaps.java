import java.util.Arrays;

/**
 * Maps of few points, done one behind another, and what comes of them.
 *
 * A map is held as octal digits in one int: digit i says where point i goes. Elements and words
 * are known only when a call asks for them, and are kept until the points or the letters change.
 * All rows are made with the object, so that no call makes anything.
 */
public final class PointMaps {
    public static final int BAD = -1, FULL = -3, SPENT = -5, NONE = -9;

    private static final int MOST_POINTS = 6;
    private static final int MOST_LETTERS = 4;
    private static final int MOST_ELEMENTS = 1500;
    private static final int LONGEST = 40;

    private static final int BOX = 0, RIGHT = 1, LEFT = 2, CELL = 3;

    private final Letters letters;
    private final Elements all;
    private final Boxes inside;
    private final PointSets sets;
    private final Walks setWalks;
    private final Walks pairWalks;
    private final Machine machine;

    public PointMaps() {
        letters = new Letters();
        all = new Elements(letters);
        inside = new Boxes(letters, all);
        sets = new PointSets(letters);
        setWalks = new Walks(letters, false);
        pairWalks = new Walks(letters, true);
        machine = new Machine(letters, all, sets);
    }

    // ---- points, letters

    public int points(int n) {
        if (!within(n, 1, MOST_POINTS)) {
            return BAD;
        }
        int were = letters.n;
        letters.beginWith(n);
        machine.changeStart(0);
        machine.changeEnds(0);
        return were;
    }

    public int letter(int map) {
        if (!within(map, 0, letters.mostMaps() - 1)) {
            return BAD;
        }
        if (letters.many >= MOST_LETTERS) {
            return FULL;
        }
        return letters.add(Maps.ofNumber(map, letters.n));
    }

    public int drop() {
        if (letters.many < 1) {
            return BAD;
        }
        return letters.removeLast();
    }

    public int elements(int what) {
        if (!within(what, 0, 3)) {
            return BAD;
        }
        if (!all.ready()) {
            return SPENT;
        }
        switch (what) {
            case 0: return all.many;
            case 1: return all.stillOnes();
            case 2: return all.central();
            default: return all.greatestRing();
        }
    }

    public int element(int e, int what) {
        if (!within(what, 0, 7)) {
            return BAD;
        }
        if (!all.ready()) {
            return SPENT;
        }
        return all.has(e) ? all.tell(e, what) : BAD;
    }

    public int word(int e, int i) {
        if (!all.ready()) {
            return SPENT;
        }
        return all.has(e) ? all.words.letterAt(e, i) : BAD;
    }

    public int find(int map) {
        if (!within(map, 0, letters.mostMaps() - 1)) {
            return BAD;
        }
        if (!all.ready()) {
            return SPENT;
        }
        return all.numberOf(Maps.ofNumber(map, letters.n));
    }

    public int done(int a, int b) {
        if (!all.ready()) {
            return SPENT;
        }
        return all.has(a) && all.has(b) ? all.numberOf(all.product(a, b)) : BAD;
    }

    // ---- boxes

    public int boxes(int what) {
        if (!within(what, 0, 7)) {
            return BAD;
        }
        if (!inside.ready()) {
            return SPENT;
        }
        switch (what) {
            case 4: return inside.regular();
            case 5: return all.stillOnes();
            case 6: return inside.leastBox();
            case 7: return inside.size(inside.leastBox());
            default: return inside.howMany(what);
        }
    }

    public int box(int e, int what) {
        if (!within(what, BOX, CELL)) {
            return BAD;
        }
        if (!inside.ready()) {
            return SPENT;
        }
        return all.has(e) ? inside.numberOf(what, e) : BAD;
    }

    public int about(int i, int what) {
        if (!within(what, 0, 7)) {
            return BAD;
        }
        if (!inside.ready()) {
            return SPENT;
        }
        return inside.has(i) ? inside.tell(i, what) : BAD;
    }

    public int below(int i, int j) {
        if (!inside.ready()) {
            return SPENT;
        }
        if (!inside.has(i) || !inside.has(j)) {
            return BAD;
        }
        return oneIf(inside.isBelow(i, j));
    }

    public int ideal(int e) {
        if (!inside.ready()) {
            return SPENT;
        }
        return all.has(e) ? inside.reach(e) : BAD;
    }

    public int sort(int what) {
        if (!within(what, 0, 6)) {
            return BAD;
        }
        if (!inside.ready()) {
            return SPENT;
        }
        switch (what) {
            case 0: return oneIf(all.central() == all.many);
            case 4: return oneIf(inside.regular() == inside.howMany(BOX));
            case 5: return oneIf(all.stillOnesCommute());
            case 6: return oneIf(inside.howMany(CELL) == 1);
            default: return oneIf(inside.howMany(what) == all.many);
        }
    }

    public int solve(int a, int b, int behind, int what) {
        if (!within(behind, 0, 1) || !within(what, 0, 1)) {
            return BAD;
        }
        if (!all.ready()) {
            return SPENT;
        }
        if (!all.has(a) || !all.has(b)) {
            return BAD;
        }
        return what == 0 ? all.solutions(a, b, behind == 1) : all.leastSolution(a, b, behind == 1);
    }

    // ---- sets of points

    public int together(int set, int i) {
        if (!within(set, 1, letters.wholeSet()) || i < -1) {
            return BAD;
        }
        setWalks.walkFrom(set);
        return setWalks.wordTo(sets.singles(), i);
    }

    public int lowest(int set) {
        if (!within(set, 0, letters.wholeSet())) {
            return BAD;
        }
        setWalks.walkFrom(set);
        return setWalks.fewestBits();
    }

    public int apart() {
        return sets.apartPairs();
    }

    public int cut(int a, int b) {
        if (!letters.hasPoint(a) || !letters.hasPoint(b)) {
            return BAD;
        }
        return Maps.toNumber(sets.leastCut(a, b), letters.n);
    }

    public int cuts() {
        return sets.allCuts();
    }

    public int twists() {
        return sets.allTwists();
    }

    // ---- machines

    public int set(int what, int v) {
        if (!within(what, 0, 1) || !within(v, 0, what == 0 ? letters.n - 1 : letters.wholeSet())) {
            return BAD;
        }
        return what == 0 ? machine.changeStart(v) : machine.changeEnds(v);
    }

    public int taken(int length) {
        if (!within(length, 0, LONGEST)) {
            return BAD;
        }
        return machine.takenWords(length);
    }

    public int least() {
        return machine.heaps();
    }

    public int parting(int a, int b, int i) {
        if (!letters.hasPoint(a) || !letters.hasPoint(b) || i < -1) {
            return BAD;
        }
        pairWalks.walkFrom(Maps.pair(a, b));
        return pairWalks.wordTo(machine.unlikeEnds(), i);
    }

    public int meanings(int what) {
        if (!within(what, 0, 1)) {
            return BAD;
        }
        if (!all.ready()) {
            return SPENT;
        }
        return what == 0 ? machine.countMeanings() : oneIf(machine.isStarless());
    }

    public int count(int what) {
        switch (what) {
            case 0: return letters.n;
            case 1: return letters.many;
            case 2: return machine.start;
            case 3: return machine.ends;
            default: return BAD;
        }
    }

    // ---- what all parts use

    private static boolean within(int value, int from, int to) {
        return value >= from && value <= to;
    }

    private static int oneIf(boolean so) {
        return so ? 1 : 0;
    }

    /** Every row is read here, so that no index is used that was not looked at. */
    private static int at(int[] row, int i) {
        return i >= 0 && i < row.length ? row[i] : 0;
    }

    /** Every row is written here, for the same reason. */
    private static void put(int[] row, int i, int value) {
        if (i >= 0 && i < row.length) {
            row[i] = value;
        }
    }

    /** What can be said of maps alone. Each is octal digits in one int. */
    private static final class Maps {
        static int goesTo(int map, int point) {
            return (map >> (3 * point)) & 7;
        }

        static int with(int map, int point, int to) {
            return (map & ~(7 << (3 * point))) | (to << (3 * point));
        }

        static int nothing(int n) {
            int map = 0;
            for (int i = 0; i < n; i++) {
                map = with(map, i, i);
            }
            return map;
        }

        static int ahead(int a, int b, int n) {
            int map = 0;
            for (int i = 0; i < n; i++) {
                map |= goesTo(b, goesTo(a, i)) << (3 * i);
            }
            return map;
        }

        static boolean commute(int a, int b, int n) {
            return ahead(a, b, n) == ahead(b, a, n);
        }

        static boolean isStill(int map, int n) {
            return ahead(map, map, n) == map;
        }

        static int toNumber(int map, int n) {
            int number = 0;
            for (int i = n - 1; i >= 0; i--) {
                number = number * n + goesTo(map, i);
            }
            return number;
        }

        static int ofNumber(int number, int n) {
            int map = 0;
            int rest = number;
            for (int i = 0; i < n; i++) {
                map = with(map, i, Math.floorMod(rest, Math.max(1, n)));
                rest = Math.floorDiv(rest, Math.max(1, n));
            }
            return map;
        }

        static int ofSet(int map, int set) {
            int image = 0;
            for (int i = 0; i < MOST_POINTS; i++) {
                if (((set >> i) & 1) == 1) {
                    image |= 1 << goesTo(map, i);
                }
            }
            return image;
        }

        static int pair(int a, int b) {
            return a * 8 + b;
        }

        static int ofPair(int map, int pair) {
            return pair(goesTo(map, pair >> 3), goesTo(map, pair & 7));
        }

        static int rank(int map, int n) {
            return Integer.bitCount(ofSet(map, (1 << n) - 1));
        }

        static int kernel(int map, int n) {
            int heaps = 0;
            for (int i = 0; i < n; i++) {
                int least = 0;
                while (least < i && goesTo(map, least) != goesTo(map, i)) {
                    least++;
                }
                heaps = with(heaps, i, least);
            }
            return heaps;
        }
    }

    /** How many points there are, and the letters. */
    private static final class Letters {
        final int[] maps = new int[MOST_LETTERS];
        int n;
        int many;
        /** Grows with each change, so that others can tell that what they know is old. */
        int changes;

        Letters() {
            n = 3;
        }

        void beginWith(int points) {
            n = points;
            many = 0;
            changes++;
        }

        int add(int map) {
            put(maps, many, map);
            changes++;
            many++;
            return many - 1;
        }

        int removeLast() {
            changes++;
            many--;
            return many;
        }

        int map(int k) {
            return at(maps, k);
        }

        int mostMaps() {
            int most = 1;
            for (int i = 0; i < n; i++) {
                most *= n;
            }
            return most;
        }

        int wholeSet() {
            return (1 << n) - 1;
        }

        boolean hasPoint(int point) {
            return within(point, 0, n - 1);
        }

        boolean allCommuteWith(int map) {
            for (int k = 0; k < many; k++) {
                if (!Maps.commute(map, at(maps, k), n)) {
                    return false;
                }
            }
            return true;
        }
    }

    /** Numbers kept by keys of 0 and above; each key looks for a free slot from its own place on. */
    private static final class Finder {
        private static final int SLOTS = 4096;
        private static final int SPREAD = 0x9E3779B1;

        /** The key and 1, so that 0 says that a slot is free. */
        private final int[] keys = new int[SLOTS];
        private final int[] numbers = new int[SLOTS];

        void clear() {
            Arrays.fill(keys, 0);
        }

        int look(int key) {
            int slot = slotOf(key);
            return at(keys, slot) == key + 1 ? at(numbers, slot) : NONE;
        }

        void keep(int key, int number) {
            int slot = slotOf(key);
            put(keys, slot, key + 1);
            put(numbers, slot, number);
        }

        private int slotOf(int key) {
            int slot = (key * SPREAD) >>> 20;
            for (int t = 0; t < SLOTS; t++) {
                int held = at(keys, slot);
                if (held == 0 || held == key + 1) {
                    return slot;
                }
                slot = (slot + 1) % SLOTS;
            }
            return slot;
        }
    }

    /** Words, each told as an earlier one with one letter more behind it. */
    private static final class Trail {
        private final int[] earlier;
        private final int[] lastLetter;
        private final int[] length;

        Trail(int most) {
            earlier = new int[Math.max(0, most)];
            lastLetter = new int[Math.max(0, most)];
            length = new int[Math.max(0, most)];
        }

        void begin(int first) {
            put(length, first, 0);
        }

        void grow(int from, int letter, int to) {
            put(earlier, to, from);
            put(lastLetter, to, letter);
            put(length, to, at(length, from) + 1);
        }

        int lengthOf(int thing) {
            return at(length, thing);
        }

        int letterAt(int thing, int i) {
            int behind = lengthOf(thing) - 1 - i;
            if (i < 0 || behind < 0) {
                return BAD;
            }
            int place = thing;
            for (int t = 0; t < behind; t++) {
                place = at(earlier, place);
            }
            return at(lastLetter, place);
        }
    }

    /** The powers of one map, until one comes again. */
    private static final class Powers {
        /** On six points the tail is at most 4 and the ring at most 6. */
        private static final int MOST = 16;

        private final int[] row = new int[MOST];
        private int many;
        private int tail;

        void listOf(int map, int n) {
            int power = map;
            int met = NONE;
            many = 0;
            for (int t = 0; t < MOST && met == NONE; t++) {
                put(row, many, power);
                many++;
                power = Maps.ahead(power, map, n);
                met = placeOf(power);
            }
            tail = Math.max(0, met);
        }

        private int placeOf(int power) {
            for (int i = 0; i < many; i++) {
                if (at(row, i) == power) {
                    return i;
                }
            }
            return NONE;
        }

        int tail() {
            return tail;
        }

        int ring() {
            return many - tail;
        }

        int stillOne(int n) {
            for (int i = tail; i < many; i++) {
                if (Maps.isStill(at(row, i), n)) {
                    return at(row, i);
                }
            }
            return at(row, 0);
        }
    }

    /** All elements, by their least words. */
    private static final class Elements {
        private final Letters letters;
        private final int[] maps = new int[MOST_ELEMENTS];
        private final int[] behind = new int[MOST_ELEMENTS * MOST_LETTERS];
        private final Finder numbers = new Finder();
        private final Powers powers = new Powers();
        final Trail words = new Trail(MOST_ELEMENTS);
        int many;
        private boolean spent;
        private int seen = -1;

        Elements(Letters letters) {
            this.letters = letters;
        }

        /** Lists the elements, if the letters have changed; false, if there are too many. */
        boolean ready() {
            if (seen == letters.changes) {
                return !spent;
            }
            seen = letters.changes;
            numbers.clear();
            many = 0;
            spent = false;
            words.begin(0);
            meet(Maps.nothing(letters.n));
            for (int e = 0; e < many && e < MOST_ELEMENTS && !spent; e++) {
                for (int k = 0; k < letters.many && !spent; k++) {
                    step(e, k);
                }
            }
            return !spent;
        }

        private void step(int e, int k) {
            int map = Maps.ahead(map(e), letters.map(k), letters.n);
            int to = numbers.look(map);
            if (to == NONE && many >= MOST_ELEMENTS) {
                spent = true;
                return;
            }
            if (to == NONE) {
                to = many;
                words.grow(e, k, to);
                meet(map);
            }
            put(behind, e * MOST_LETTERS + k, to);
        }

        private void meet(int map) {
            put(maps, many, map);
            numbers.keep(map, many);
            many++;
        }

        boolean has(int e) {
            return within(e, 0, many - 1);
        }

        int map(int e) {
            return at(maps, e);
        }

        int numberOf(int map) {
            return numbers.look(map);
        }

        int withLetterBehind(int e, int k) {
            return at(behind, e * MOST_LETTERS + k);
        }

        int withLetterAhead(int e, int k) {
            return numbers.look(Maps.ahead(letters.map(k), map(e), letters.n));
        }

        int product(int a, int b) {
            return Maps.ahead(map(a), map(b), letters.n);
        }

        boolean isStill(int e) {
            return Maps.isStill(map(e), letters.n);
        }

        int tell(int e, int what) {
            powers.listOf(map(e), letters.n);
            switch (what) {
                case 0: return Maps.toNumber(map(e), letters.n);
                case 1: return rank(e);
                case 2: return Maps.toNumber(Maps.kernel(map(e), letters.n), letters.n);
                case 3: return words.lengthOf(e);
                case 4: return oneIf(isStill(e));
                case 5: return powers.tail();
                case 6: return powers.ring();
                default: return numberOf(powers.stillOne(letters.n));
            }
        }

        int rank(int e) {
            return Maps.rank(map(e), letters.n);
        }

        int stillOnes() {
            int found = 0;
            for (int e = 0; e < many; e++) {
                found += oneIf(isStill(e));
            }
            return found;
        }

        int central() {
            int found = 0;
            for (int e = 0; e < many; e++) {
                found += oneIf(letters.allCommuteWith(map(e)));
            }
            return found;
        }

        int greatestRing() {
            int greatest = 1;
            for (int e = 0; e < many; e++) {
                powers.listOf(map(e), letters.n);
                greatest = Math.max(greatest, powers.ring());
            }
            return greatest;
        }

        /** Few still ones commute all with one another, so an unlike pair is soon met. */
        boolean stillOnesCommute() {
            for (int e = 0; e < many; e++) {
                if (isStill(e) && !commutesWithEarlierStillOnes(e)) {
                    return false;
                }
            }
            return true;
        }

        private boolean commutesWithEarlierStillOnes(int e) {
            for (int f = 0; f < e; f++) {
                if (isStill(f) && !Maps.commute(map(e), map(f), letters.n)) {
                    return false;
                }
            }
            return true;
        }

        private boolean solves(int x, int a, int b, boolean isBehind) {
            return (isBehind ? product(a, x) : product(x, a)) == map(b);
        }

        int solutions(int a, int b, boolean isBehind) {
            int found = 0;
            for (int x = 0; x < many; x++) {
                found += oneIf(solves(x, a, b, isBehind));
            }
            return found;
        }

        int leastSolution(int a, int b, boolean isBehind) {
            for (int x = 0; x < many; x++) {
                if (solves(x, a, b, isBehind)) {
                    return x;
                }
            }
            return NONE;
        }
    }

    /** One step by each letter from each element: with the letter behind it, then ahead of it. */
    private static final class Steps {
        private static final int WAYS = 2 * MOST_LETTERS;
        /** Each element is opened and closed once, and each of its ways is tried once. */
        private static final int MOST_TURNS = MOST_ELEMENTS * (WAYS + 2);

        private final int[] to = new int[MOST_ELEMENTS * WAYS];
        private final int[] tried = new int[MOST_ELEMENTS];
        private final int[] order = new int[MOST_ELEMENTS];
        private final int[] low = new int[MOST_ELEMENTS];
        private final int[] root = new int[MOST_ELEMENTS];
        private final int[] path = new int[MOST_ELEMENTS];
        private final int[] waiting = new int[MOST_ELEMENTS];
        private int onPath;
        private int onWaiting;
        private int opened;

        void lead(int e, int way, int there) {
            put(to, e * WAYS + way, there);
        }

        int from(int e, int way) {
            return at(to, e * WAYS + way);
        }

        /** Gives one root to all that come of one another by the ways first .. end - 1 (after Tarjan). */
        void findRoots(int many, int first, int end) {
            opened = 0;
            Arrays.fill(order, 0);
            Arrays.fill(root, NONE);
            for (int e = 0; e < many; e++) {
                if (at(order, e) == 0) {
                    followFrom(e, first, end);
                }
            }
        }

        int rootOf(int e) {
            return at(root, e);
        }

        private void followFrom(int start, int first, int end) {
            onPath = 0;
            onWaiting = 0;
            open(start, first);
            for (int t = 0; t < MOST_TURNS && onPath > 0; t++) {
                int e = at(path, onPath - 1);
                int way = at(tried, e);
                if (way < end) {
                    put(tried, e, way + 1);
                    tryWay(e, from(e, way), first);
                } else {
                    close(e);
                }
            }
        }

        private void open(int e, int first) {
            opened++;
            put(order, e, opened);
            put(low, e, opened);
            put(tried, e, first);
            put(path, onPath, e);
            put(waiting, onWaiting, e);
            onPath++;
            onWaiting++;
        }

        private void tryWay(int e, int there, int first) {
            if (at(order, there) == 0) {
                open(there, first);
            } else if (at(root, there) == NONE) {
                lower(e, at(order, there));
            }
        }

        private void close(int e) {
            onPath--;
            if (at(low, e) == at(order, e)) {
                takeWaiting(e);
            }
            if (onPath > 0) {
                lower(at(path, onPath - 1), at(low, e));
            }
        }

        private void takeWaiting(int e) {
            while (onWaiting > 0 && at(root, e) == NONE) {
                onWaiting--;
                put(root, at(waiting, onWaiting), e);
            }
        }

        private void lower(int e, int value) {
            put(low, e, Math.min(at(low, e), value));
        }
    }

    /** Which elements come of one another: boxes, right and left ones, and cells. */
    private static final class Boxes {
        private final Letters letters;
        private final Elements all;
        private final Steps steps = new Steps();
        private final Finder names = new Finder();
        private final int[] number = new int[4 * MOST_ELEMENTS];
        private final int[] leastIn = new int[4 * MOST_ELEMENTS];
        private final int[] many = new int[4];
        private final int[] sizes = new int[MOST_ELEMENTS];
        private final int[] stillIn = new int[MOST_ELEMENTS];
        private final int[] leadsOut = new int[MOST_ELEMENTS];
        private final int[] met = new int[MOST_ELEMENTS];
        private final int[] queue = new int[MOST_ELEMENTS];
        private int queued;
        private int seen = -1;

        Boxes(Letters letters, Elements all) {
            this.letters = letters;
            this.all = all;
        }

        /** Sorts the elements into boxes, if the letters have changed; false, if there are too many. */
        boolean ready() {
            if (!all.ready()) {
                return false;
            }
            if (seen != letters.changes) {
                seen = letters.changes;
                drawSteps();
                numberByRoots(BOX, 0, 2 * letters.many);
                numberByRoots(RIGHT, 0, letters.many);
                numberByRoots(LEFT, letters.many, 2 * letters.many);
                numberCells();
                sumUp();
            }
            return true;
        }

        private void drawSteps() {
            for (int e = 0; e < all.many; e++) {
                for (int k = 0; k < letters.many; k++) {
                    steps.lead(e, k, all.withLetterBehind(e, k));
                    steps.lead(e, letters.many + k, all.withLetterAhead(e, k));
                }
            }
        }

        private void numberByRoots(int kind, int firstWay, int endWay) {
            steps.findRoots(all.many, firstWay, endWay);
            beginNumbers(kind);
            for (int e = 0; e < all.many; e++) {
                giveNumber(kind, e, steps.rootOf(e));
            }
        }

        private void numberCells() {
            beginNumbers(CELL);
            for (int e = 0; e < all.many; e++) {
                giveNumber(CELL, e, numberOf(RIGHT, e) * MOST_ELEMENTS + numberOf(LEFT, e));
            }
        }

        private void beginNumbers(int kind) {
            names.clear();
            put(many, kind, 0);
        }

        private void giveNumber(int kind, int e, int name) {
            int given = names.look(name);
            if (given == NONE) {
                given = howMany(kind);
                names.keep(name, given);
                put(leastIn, kind * MOST_ELEMENTS + given, e);
                put(many, kind, given + 1);
            }
            put(number, kind * MOST_ELEMENTS + e, given);
        }

        private void sumUp() {
            Arrays.fill(sizes, 0);
            Arrays.fill(stillIn, 0);
            Arrays.fill(leadsOut, 0);
            for (int e = 0; e < all.many; e++) {
                int i = numberOf(BOX, e);
                put(sizes, i, at(sizes, i) + 1);
                put(stillIn, i, at(stillIn, i) + oneIf(all.isStill(e)));
                if (stepsOut(e)) {
                    put(leadsOut, i, 1);
                }
            }
        }

        private boolean stepsOut(int e) {
            for (int way = 0; way < 2 * letters.many; way++) {
                if (numberOf(BOX, steps.from(e, way)) != numberOf(BOX, e)) {
                    return true;
                }
            }
            return false;
        }

        boolean has(int i) {
            return within(i, 0, howMany(BOX) - 1);
        }

        int howMany(int kind) {
            return at(many, kind);
        }

        int numberOf(int kind, int e) {
            return at(number, kind * MOST_ELEMENTS + e);
        }

        int leastOf(int kind, int i) {
            return at(leastIn, kind * MOST_ELEMENTS + i);
        }

        int size(int i) {
            return at(sizes, i);
        }

        int regular() {
            int found = 0;
            for (int i = 0; i < howMany(BOX); i++) {
                found += oneIf(at(stillIn, i) > 0);
            }
            return found;
        }

        /** No step leads out of the least box, and out of each other one some step leads to it. */
        int leastBox() {
            for (int i = 0; i < howMany(BOX); i++) {
                if (at(leadsOut, i) == 0) {
                    return i;
                }
            }
            return 0;
        }

        int tell(int i, int what) {
            switch (what) {
                case 0: return size(i);
                case 4: return oneIf(at(stillIn, i) > 0);
                // A group has one still element, so there are as many as still ones.
                case 5: return at(stillIn, i);
                case 6: return all.rank(leastOf(BOX, i));
                case 7: return leastOf(BOX, i);
                default: return howManyIn(what, i);
            }
        }

        private int howManyIn(int kind, int i) {
            int found = 0;
            for (int j = 0; j < howMany(kind); j++) {
                found += oneIf(numberOf(BOX, leastOf(kind, j)) == i);
            }
            return found;
        }

        boolean isBelow(int i, int j) {
            reach(leastOf(BOX, j));
            return at(met, leastOf(BOX, i)) == 1;
        }

        /** How many elements come of one by letters ahead and behind; each of them is then met. */
        int reach(int start) {
            Arrays.fill(met, 0);
            queued = 0;
            meet(start);
            for (int q = 0; q < queued && q < MOST_ELEMENTS; q++) {
                for (int way = 0; way < 2 * letters.many; way++) {
                    meet(steps.from(at(queue, q), way));
                }
            }
            return queued;
        }

        private void meet(int e) {
            if (at(met, e) == 0) {
                put(met, e, 1);
                put(queue, queued, e);
                queued++;
            }
        }
    }

    /** All that sets of points, or ordered pairs of points, come to, by their first shortest words. */
    private static final class Walks {
        /** Sets are below 2^6 and pairs below 8 * 8, so that a long holds a bit for each. */
        private static final int MOST = 64;

        private final Letters letters;
        private final boolean ofPairs;
        private final int[] queue = new int[MOST];
        private final Trail words = new Trail(MOST);
        private int many;
        private long met;

        Walks(Letters letters, boolean ofPairs) {
            this.letters = letters;
            this.ofPairs = ofPairs;
        }

        void walkFrom(int first) {
            many = 0;
            met = 0;
            words.begin(first);
            meet(first);
            for (int q = 0; q < many && q < MOST; q++) {
                for (int k = 0; k < letters.many; k++) {
                    step(at(queue, q), k);
                }
            }
        }

        private void step(int from, int k) {
            int map = letters.map(k);
            int to = ofPairs ? Maps.ofPair(map, from) : Maps.ofSet(map, from);
            if (((met >>> to) & 1) == 0) {
                words.grow(from, k, to);
                meet(to);
            }
        }

        private void meet(int thing) {
            met |= 1L << thing;
            put(queue, many, thing);
            many++;
        }

        /** Of the word to the first met of the goals: how long it is (i = -1), or its letter i. */
        int wordTo(long goals, int i) {
            int goal = firstMetOf(goals);
            if (i == -1) {
                return goal == NONE ? NONE : words.lengthOf(goal);
            }
            return goal == NONE ? BAD : words.letterAt(goal, i);
        }

        private int firstMetOf(long goals) {
            for (int q = 0; q < many; q++) {
                if (((goals >>> at(queue, q)) & 1) == 1) {
                    return at(queue, q);
                }
            }
            return NONE;
        }

        int fewestBits() {
            int fewest = MOST_POINTS;
            for (int q = 0; q < many; q++) {
                fewest = Math.min(fewest, Integer.bitCount(at(queue, q)));
            }
            return fewest;
        }
    }

    /** Pairs that come together, points taken as one, and twists. */
    private static final class PointSets {
        private final Letters letters;

        PointSets(Letters letters) {
            this.letters = letters;
        }

        /** The sets of one point, a bit for each. */
        long singles() {
            long marks = 0;
            for (int i = 0; i < letters.n; i++) {
                marks |= 1L << (1 << i);
            }
            return marks;
        }

        /** The pairs (a bit for each) from which some word leads to one of the marked pairs. */
        long leadingTo(long marks) {
            long led = marks;
            for (int round = 0; round < Walks.MOST; round++) {
                long more = withOneLetterAhead(led);
                if (more == led) {
                    return led;
                }
                led = more;
            }
            return led;
        }

        private long withOneLetterAhead(long marks) {
            long led = marks;
            for (int a = 0; a < letters.n; a++) {
                for (int b = 0; b < letters.n; b++) {
                    if (someLetterLeads(Maps.pair(a, b), marks)) {
                        led |= 1L << Maps.pair(a, b);
                    }
                }
            }
            return led;
        }

        private boolean someLetterLeads(int pair, long marks) {
            for (int k = 0; k < letters.many; k++) {
                if (((marks >>> Maps.ofPair(letters.map(k), pair)) & 1) == 1) {
                    return true;
                }
            }
            return false;
        }

        int apartPairs() {
            long met = 0;
            for (int i = 0; i < letters.n; i++) {
                met |= 1L << Maps.pair(i, i);
            }
            int orderedPairs = letters.n * letters.n;
            return (orderedPairs - Long.bitCount(leadingTo(met))) / 2;
        }

        int leastCut(int a, int b) {
            int heaps = joined(Maps.nothing(letters.n), a, b);
            // Each round that changes anything joins two heaps: so many rounds are enough.
            for (int round = 0; round < letters.n; round++) {
                heaps = joinedByLetters(heaps);
            }
            return heaps;
        }

        private int joinedByLetters(int heaps) {
            int made = heaps;
            for (int k = 0; k < letters.many; k++) {
                int map = letters.map(k);
                for (int i = 0; i < letters.n; i++) {
                    made = joined(made, Maps.goesTo(map, i), Maps.goesTo(map, Maps.goesTo(made, i)));
                }
            }
            return made;
        }

        private int joined(int heaps, int a, int b) {
            int low = Math.min(Maps.goesTo(heaps, a), Maps.goesTo(heaps, b));
            int high = Math.max(Maps.goesTo(heaps, a), Maps.goesTo(heaps, b));
            int made = heaps;
            for (int i = 0; i < letters.n; i++) {
                if (Maps.goesTo(heaps, i) == high) {
                    made = Maps.with(made, i, low);
                }
            }
            return made;
        }

        int allCuts() {
            int choices = choices();
            int found = 0;
            for (int choice = 0; choice < choices; choice++) {
                int heaps = chosenHeaps(choice);
                found += oneIf(Maps.isStill(heaps, letters.n) && lettersKeep(heaps));
            }
            return found;
        }

        private boolean lettersKeep(int heaps) {
            for (int k = 0; k < letters.many; k++) {
                int heapsBehind = Maps.ahead(letters.map(k), heaps, letters.n);
                if (Maps.ahead(heaps, heapsBehind, letters.n) != heapsBehind) {
                    return false;
                }
            }
            return true;
        }

        int allTwists() {
            int choices = choices();
            int found = 0;
            for (int choice = 0; choice < choices; choice++) {
                found += oneIf(letters.allCommuteWith(chosenTwist(choice)));
            }
            return found;
        }

        /** How many rows there are with one of 0 .. i at each place i. */
        private int choices() {
            int product = 1;
            for (int i = 1; i < letters.n; i++) {
                product *= i + 1;
            }
            return product;
        }

        /** Each cut is one of these: a point's heap is told by its least point, so by none above it. */
        private int chosenHeaps(int choice) {
            int heaps = 0;
            int rest = choice;
            for (int i = 0; i < letters.n; i++) {
                heaps = Maps.with(heaps, i, rest % (i + 1));
                rest /= i + 1;
            }
            return heaps;
        }

        /** Each way to exchange the points is one of these: point i changes with one of 0 .. i. */
        private int chosenTwist(int choice) {
            int twist = 0;
            int rest = choice;
            for (int i = 0; i < letters.n; i++) {
                int other = rest % (i + 1);
                twist = Maps.with(twist, i, Maps.goesTo(twist, other));
                twist = Maps.with(twist, other, i);
                rest /= i + 1;
            }
            return twist;
        }
    }

    /** The points as states: a start, a set of ends, and what words do between them. */
    private static final class Machine {
        private static final int PRIME = 1000000007;
        private static final int NO_HEAP = 7;

        private final Letters letters;
        private final Elements all;
        private final PointSets sets;
        private final Powers powers = new Powers();
        private final Finder known = new Finder();
        private final int[] ways = new int[MOST_POINTS];
        private final int[] nextWays = new int[MOST_POINTS];
        int start;
        int ends;

        Machine(Letters letters, Elements all, PointSets sets) {
            this.letters = letters;
            this.all = all;
            this.sets = sets;
        }

        int changeStart(int state) {
            int was = start;
            start = state;
            return was;
        }

        int changeEnds(int set) {
            int was = ends;
            ends = set;
            return was;
        }

        private boolean isEnd(int state) {
            return ((ends >> state) & 1) == 1;
        }

        int takenWords(int length) {
            Arrays.fill(ways, 0);
            put(ways, start, 1);
            for (int t = 0; t < length; t++) {
                goByOneLetter();
            }
            int sum = 0;
            for (int s = 0; s < letters.n; s++) {
                if (isEnd(s)) {
                    sum = (sum + at(ways, s)) % PRIME;
                }
            }
            return sum;
        }

        /** Two numbers below the prime fit together into an int. */
        private void goByOneLetter() {
            Arrays.fill(nextWays, 0);
            for (int s = 0; s < letters.n; s++) {
                for (int k = 0; k < letters.many; k++) {
                    int to = Maps.goesTo(letters.map(k), s);
                    put(nextWays, to, (at(nextWays, to) + at(ways, s)) % PRIME);
                }
            }
            System.arraycopy(nextWays, 0, ways, 0, MOST_POINTS);
        }

        /** The pairs (a bit for each) of which just one is an end. */
        long unlikeEnds() {
            long marks = 0;
            for (int a = 0; a < letters.n; a++) {
                for (int b = 0; b < letters.n; b++) {
                    if (isEnd(a) != isEnd(b)) {
                        marks |= 1L << Maps.pair(a, b);
                    }
                }
            }
            return marks;
        }

        private int statesFromStart() {
            int states = 1 << start;
            for (int round = 0; round < letters.n; round++) {
                for (int k = 0; k < letters.many; k++) {
                    states |= Maps.ofSet(letters.map(k), states);
                }
            }
            return states;
        }

        int heaps() {
            int heaps = leastMachine();
            int found = 0;
            for (int s = 0; s < letters.n; s++) {
                found += oneIf(Maps.goesTo(heaps, s) == s);
            }
            return found;
        }

        /** Of each state the least one in its heap, or NO_HEAP, if it can't be come to from the start. */
        private int leastMachine() {
            int states = statesFromStart();
            long parted = sets.leadingTo(unlikeEnds());
            int heaps = 0;
            for (int s = 0; s < letters.n; s++) {
                heaps = Maps.with(heaps, s, heapOf(s, states, parted));
            }
            return heaps;
        }

        private int heapOf(int state, int states, long parted) {
            if (((states >> state) & 1) == 0) {
                return NO_HEAP;
            }
            int least = 0;
            while (least < state && !isAlike(least, state, states, parted)) {
                least++;
            }
            return least;
        }

        private boolean isAlike(int other, int state, int states, long parted) {
            return ((states >> other) & 1) == 1 && ((parted >>> Maps.pair(other, state)) & 1) == 0;
        }

        /** What a map does with heaps, each told by its least state; all other states stay. */
        private int meaning(int map, int heaps) {
            int made = Maps.nothing(letters.n);
            for (int s = 0; s < letters.n; s++) {
                if (Maps.goesTo(heaps, s) == s) {
                    made = Maps.with(made, s, Maps.goesTo(heaps, Maps.goesTo(map, s)));
                }
            }
            return made;
        }

        int countMeanings() {
            int heaps = leastMachine();
            int found = 0;
            known.clear();
            for (int e = 0; e < all.many; e++) {
                found += oneIf(isNew(meaning(all.map(e), heaps)));
            }
            return found;
        }

        private boolean isNew(int meaning) {
            if (known.look(meaning) != NONE) {
                return false;
            }
            known.keep(meaning, 0);
            return true;
        }

        boolean isStarless() {
            int heaps = leastMachine();
            for (int e = 0; e < all.many; e++) {
                powers.listOf(meaning(all.map(e), heaps), letters.n);
                if (powers.ring() > 1) {
                    return false;
                }
            }
            return true;
        }
    }
}
