import java.util.Arrays;

/** A desk for matroids with prices on their bases; what each method answers is told in DOC.md. */
public final class PricedBases {
    public static final int NONE = -1;
    public static final int NO_VALUE = -2147483648;

    private static final int NOTHING = -2;
    private static final int NOT_SO_MANY = -4;

    private static final int SHELVES = 4;
    private static final int MOST_ELEMENTS = 8;
    private static final int SETS = 256;
    private static final int MOST_BASES = 70;
    private static final int HIGHEST_VALUE = 1000000;
    private static final int HIGHEST_PRICE = 1000;
    private static final int TAPE_BYTES = 240;
    private static final int FED_BYTES = 20;
    private static final int TEXT_BYTES = 200;
    private static final int CHECK_BYTES = 70;
    private static final int SEEDS = 65536;
    private static final int MOST_STEPS = 1000;
    private static final int MOST_DRAWN = 60;

    private final State now = new State();
    private final State kept = new State();
    private boolean anyKept = false;
    private final int[] tape = new int[TAPE_BYTES];
    private int taped = 0;
    private final Clauses clauses = new Clauses();
    private final Maker maker = new Maker();
    private final Law law = new Law();
    private final Sums sums = new Sums();
    private final Space around = new Space();
    private final Couple couple = new Couple();
    private final Ways ways = new Ways();
    private final Rows rows = new Rows();
    private final int[] table = new int[SETS];
    private final int[] drawnPrices = new int[MOST_ELEMENTS];

    public PricedBases() {
    }

    public int feed(int a, int b, int c, int d, int e) {
        if (taped + FED_BYTES > TAPE_BYTES) {
            return NONE;
        }
        tapeBytes(a);
        tapeBytes(b);
        tapeBytes(c);
        tapeBytes(d);
        tapeBytes(e);
        return taped;
    }

    private void tapeBytes(int four) {
        for (int shift = 24; shift >= 0; shift -= 8) {
            if (taped < TAPE_BYTES) {
                tape[taped] = (four >>> shift) & 255;
                taped++;
            }
        }
    }

    public int orders(int n) {
        if (n < 1 || n > TEXT_BYTES || n > taped) {
            return NONE;
        }
        clauses.read(tape, n);
        taped = 0;
        if (clauses.faultTold != 0) {
            return clauses.faultTold;
        }
        for (int k = 0; k < clauses.held; k++) {
            if (!isDone(k)) {
                return k;
            }
        }
        return clauses.held;
    }

    private boolean isDone(int k) {
        int target = clauses.number(k, 0);
        if (clauses.kind(k) == Clauses.PRICE) {
            now.setPrice(target, clauses.number(k, 1));
            return true;
        }
        Valuation to = now.shelfAt(target);
        if (to == null || !maker.isMade(clauses, k, now)) {
            return false;
        }
        now.note(target, to.size, maker.made.size, maker.made.n);
        to.take(maker.made);
        return true;
    }

    public int price(int element, int v) {
        if (element < 0 || element >= MOST_ELEMENTS || v < -HIGHEST_PRICE || v > HIGHEST_PRICE) {
            return NO_VALUE;
        }
        int before = now.prices[element];
        now.setPrice(element, v);
        return before;
    }

    public int shelf(int s, int what) {
        Valuation v = now.shelfAt(s);
        if (v == null) {
            return NO_VALUE;
        }
        switch (what) {
            case 0: return v.n;
            case 1: return v.r;
            case 2: return v.size;
            case 3: return v.greatestValue();
            case 4: return v.leastGreatest();
            case 5: return Shape.loops(v);
            case 6: return Shape.bridges(v);
            case 7: return bit(law.meets(v, v.values, 0) == 0);
            case 8: return bit(law.meets(v, law.flat(v), 0) == 0);
            case 9: return Shape.freeSets(v);
            case 10: return Shape.flats(v);
            case 11: return Shape.circuits(v);
            case 12: return law.meets(v, v.values, Law.ALL);
            default: return NO_VALUE;
        }
    }

    public int value(int s, int set) {
        Valuation v = now.shelfAt(s);
        return v == null || !v.hasBase(set) ? NO_VALUE : v.values[set];
    }

    public int base(int s, int k) {
        Valuation v = now.shelfAt(s);
        if (v == null || k < 0) {
            return NONE;
        }
        return k < v.size ? v.bases[k] : NOT_SO_MANY;
    }

    public int fault(int s, int k, int what) {
        Valuation v = now.shelfAt(s);
        if (v == null || k < 0 || what < 0 || what > 2) {
            return NONE;
        }
        if (law.meets(v, v.values, k) <= k) {
            return NOT_SO_MANY;
        }
        return what == 0 ? law.a : what == 1 ? law.b : law.i;
    }

    public int exchange(int s, int a, int b, int i) {
        Valuation v = now.shelfAt(s);
        if (v == null || !v.hasBase(a) || !v.hasBase(b) || !v.hasElement(i)) {
            return NONE;
        }
        return isIn(a & ~b, i) ? Law.partner(v.values, a, b, i) : NONE;
    }

    public int rank(int s, int set) {
        Valuation v = now.shelfAt(s);
        return v == null || !v.hasSet(set) ? NONE : v.ranks[set];
    }

    public int closure(int s, int set) {
        Valuation v = now.shelfAt(s);
        return v == null || !v.hasSet(set) ? NONE : Shape.closed(v, set);
    }

    public int circuit(int s, int k) {
        Valuation v = now.shelfAt(s);
        return v == null || k < 0 ? NONE : Shape.circuitAt(v, k);
    }

    public int greedy(int s, int from, int what) {
        Valuation v = now.shelfAt(s);
        if (v == null || !v.hasBase(from)) {
            return NO_VALUE;
        }
        sums.fill(v, now.prices);
        sums.climb(v, from);
        switch (what) {
            case 0: return sums.last;
            case 1: return sums.table[sums.last];
            case 2: return sums.steps;
            case 3: return bit(sums.isGreatest(sums.last));
            default: return NO_VALUE;
        }
    }

    public int arrive(int s) {
        Valuation v = now.shelfAt(s);
        if (v == null) {
            return NONE;
        }
        sums.fill(v, now.prices);
        int arriving = 0;
        for (int k = 0; k < v.size; k++) {
            sums.climb(v, v.bases[k]);
            arriving += bit(sums.isGreatest(sums.last));
        }
        return arriving;
    }

    public int initial(int s, int what) {
        Valuation v = now.shelfAt(s);
        if (v == null) {
            return NO_VALUE;
        }
        sums.fill(v, now.prices);
        if (what >= 10) {
            return sums.greatestAt(v, what - 10);
        }
        switch (what) {
            case 0: return sums.howManyGreatest(v);
            case 1: return sums.greatest;
            case 2: return bit(law.meets(v, law.flatGreatest(v, sums), 0) == 0);
            default: return NO_VALUE;
        }
    }

    public int space(int s) {
        Valuation v = now.shelfAt(s);
        if (v == null) {
            return NONE;
        }
        around.takePrices(v, now.prices);
        return bit(around.isFull(v));
    }

    public int failing(int s, int k) {
        Valuation v = now.shelfAt(s);
        if (v == null || k < -1) {
            return NONE;
        }
        around.takePrices(v, now.prices);
        return k == -1 ? around.howManyFailing(v) : around.failingAt(v, k);
    }

    public int spanned(int s, int what) {
        Valuation v = now.shelfAt(s);
        if (v == null || what < 0 || what > 1) {
            return NONE;
        }
        return what == 0 ? Shape.freeSized(v, v.r - 1) : around.howManySpanned(v);
    }

    public int both(int s, int t, int what) {
        Valuation v = now.shelfAt(s);
        Valuation w = now.shelfAt(t);
        if (!areAlike(v, w)) {
            return NO_VALUE;
        }
        couple.meet(v, w);
        switch (what) {
            case 0: return couple.size;
            case 1: return couple.size == 0 ? NOTHING : couple.common;
            case 2: return couple.size == 0 ? NO_VALUE : couple.together;
            case 3: return bit(couple.hasPotentials(v, w));
            default: return NO_VALUE;
        }
    }

    public int potential(int s, int t, int element) {
        Valuation v = now.shelfAt(s);
        Valuation w = now.shelfAt(t);
        if (!areAlike(v, w) || !v.hasElement(element)) {
            return NO_VALUE;
        }
        couple.meet(v, w);
        return couple.hasPotentials(v, w) ? couple.potentials[element] : NO_VALUE;
    }

    public int together(int s, int what) {
        Valuation v = now.shelfAt(s);
        if (v == null || what < 0 || what > 1) {
            return NONE;
        }
        return what == 0 ? Shape.covers(v, table) : Shape.packs(v, table);
    }

    public int sized(int s, int k) {
        Valuation v = now.shelfAt(s);
        return v == null || k < 0 || k > v.n ? NONE : Shape.freeSized(v, k);
    }

    public long tutte(int s, int x, int y) {
        Valuation v = now.shelfAt(s);
        if (v == null || x < -3 || x > 4 || y < -3 || y > 4) {
            return NO_VALUE;
        }
        return Shape.tutteSum(v, x - 1, y - 1);
    }

    public long share(int s, int element, int what) {
        Valuation v = now.shelfAt(s);
        if (v == null || !v.hasElement(element) || what < 0 || what > 1) {
            return NO_VALUE;
        }
        long above = Shape.raisingOrders(v, element);
        long below = Shape.factorial(v.n);
        long common = Shape.commonDivisor(above, below);
        if (common == 0) {
            return NO_VALUE;
        }
        return (what == 0 ? above : below) / common;
    }

    public int component(int s, int element) {
        Valuation v = now.shelfAt(s);
        return v == null || !v.hasElement(element) ? NONE : Shape.leastHanging(v, element);
    }

    public int quotient(int s, int t) {
        Valuation v = now.shelfAt(s);
        Valuation w = now.shelfAt(t);
        return haveSameElements(v, w) ? bit(Shape.hasFlatsOf(v, w)) : NONE;
    }

    public int gap(int s, int element, int what) {
        Valuation v = now.shelfAt(s);
        if (v == null || !v.hasElement(element) || what < 0 || what > 1) {
            return NO_VALUE;
        }
        sums.fill(v, now.prices);
        return sums.greatestBy(v, element, what == 0);
    }

    public int tips(int s, int element) {
        Valuation v = now.shelfAt(s);
        if (v == null || !v.hasElement(element)) {
            return NO_VALUE;
        }
        sums.fill(v, now.prices);
        int with = sums.greatestBy(v, element, true);
        int without = sums.greatestBy(v, element, false);
        if (with == NO_VALUE || without == NO_VALUE) {
            return NO_VALUE;
        }
        return now.prices[element] + without - with;
    }

    public int stairs(int s, int from, int to, int what) {
        Valuation v = now.shelfAt(s);
        if (v == null || !v.hasBase(from) || !v.hasBase(to) || what < 0 || what > 1) {
            return NO_VALUE;
        }
        if (what == 0) {
            ways.measure(v, from);
            return ways.steps[to] < 0 ? NOTHING : ways.steps[to];
        }
        sums.fill(v, now.prices);
        ways.widen(v, from, sums.table);
        return ways.widths[to];
    }

    public int told(int s, int i) {
        Valuation v = now.shelfAt(s);
        if (v == null || i < -1) {
            return NONE;
        }
        clauses.tell(v, s);
        if (i == -1) {
            return clauses.written;
        }
        return i < clauses.written ? clauses.out[i] : NOT_SO_MANY;
    }

    public int onto(int s, int t, int what) {
        Valuation v = now.shelfAt(s);
        Valuation w = now.shelfAt(t);
        if (!areAlike(v, w) || what < 0 || what > v.n) {
            return NONE;
        }
        boolean found = rows.isFound(v, w);
        if (what == 0) {
            return found ? rows.howMany(v, w) : 0;
        }
        return found ? rows.first[what - 1] : NOTHING;
    }

    public int binary(int s) {
        Valuation v = now.shelfAt(s);
        return v == null ? NONE : bit(Shape.isBinary(v));
    }

    public int shared(int s, int t, int k, int what) {
        Valuation v = now.shelfAt(s);
        Valuation w = now.shelfAt(t);
        if (!haveSameElements(v, w) || k < 0 || k > v.n) {
            return NO_VALUE;
        }
        couple.meetFree(v, w, k, now.prices);
        switch (what) {
            case 0: return couple.size;
            case 1: return couple.size == 0 ? NO_VALUE : couple.together;
            case 2: return couple.size == 0 ? NOTHING : couple.common;
            default: return NO_VALUE;
        }
    }

    public int game(int s, int set) {
        Valuation v = now.shelfAt(s);
        if (v == null || !v.hasSet(set) || !v.isFree(set)) {
            return NONE;
        }
        Shape.play(v, table);
        return table[set];
    }

    public int far(int s, int t) {
        Valuation v = now.shelfAt(s);
        Valuation w = now.shelfAt(t);
        return areAlike(v, w) ? Couple.spread(v, w) : NONE;
    }

    public int beside(int s, int what) {
        Valuation v = now.shelfAt(s);
        if (v == null) {
            return NONE;
        }
        switch (what) {
            case 0: return Ways.howManyPairs(v);
            case 1: return ways.widest(v);
            case 2: return v.bases[Ways.mostBeside(v)];
            case 3: return Ways.howManyBeside(v, v.bases[Ways.mostBeside(v)]);
            default: return NONE;
        }
    }

    public int past(int k, int what) {
        return k < 0 || k >= now.noted || what < 0 || what > 3 ? NONE : now.notes[k * State.NOTE + what];
    }

    public int walk(int s, int n, int what) {
        Valuation v = now.shelfAt(s);
        if (v == null || n < 1 || n > MOST_STEPS || what < 0 || what > 1) {
            return NONE;
        }
        int x = now.x;
        int at = v.bases[0];
        int gone = 0;
        for (int k = 0; k < n; k++) {
            x = next(x);
            int i = elementBehind(at, x);
            x = next(x);
            int j = elementBehind(v.all() & ~at, x);
            int to = at ^ (1 << i) ^ (1 << j);
            if (v.hasBase(to)) {
                at = to;
                gone++;
            }
        }
        return what == 0 ? at : gone;
    }

    /** All eight prices are drawn each time, of a shelf of fewer elements too, for X goes on by each of them. */
    public int drawn(int s, int n) {
        Valuation v = now.shelfAt(s);
        if (v == null || n < 1 || n > MOST_DRAWN) {
            return NONE;
        }
        int x = now.x;
        int arriving = 0;
        for (int k = 0; k < n; k++) {
            for (int e = 0; e < MOST_ELEMENTS; e++) {
                x = next(x);
                drawnPrices[e] = x % 21 - 10;
            }
            sums.fill(v, drawnPrices);
            sums.climb(v, v.bases[0]);
            arriving += bit(sums.isGreatest(sums.last));
        }
        return arriving;
    }

    public boolean seed(int x) {
        if (x < 0 || x >= SEEDS) {
            return false;
        }
        now.x = x;
        return true;
    }

    public int count(int what) {
        switch (what) {
            case 0: return taped;
            case 1: return now.x;
            case 2: return now.howManyBases();
            default: return NONE;
        }
    }

    public int keep() {
        kept.take(now);
        anyKept = true;
        return 0;
    }

    public boolean undo() {
        if (!anyKept) {
            return false;
        }
        now.take(kept);
        return true;
    }

    public int check(int n) {
        if (n < 0 || n > CHECK_BYTES || n > taped) {
            return NOTHING;
        }
        taped = 0;
        Valuation v = now.shelves[0];
        for (int k = 0; k < n; k++) {
            if (k >= v.size || tape[k] != v.bases[k]) {
                return k;
            }
        }
        return NONE;
    }

    private static int bit(boolean is) {
        return is ? 1 : 0;
    }

    private static boolean isIn(int set, int element) {
        return (set >> element & 1) == 1;
    }

    private static int next(int x) {
        return (25173 * x + 13849) & (SEEDS - 1);
    }

    private static boolean haveSameElements(Valuation v, Valuation w) {
        return v != null && w != null && v.n == w.n;
    }

    private static boolean areAlike(Valuation v, Valuation w) {
        return haveSameElements(v, w) && v.r == w.r;
    }

    /** The element of a set that has so many others of it ahead, counted round and round. */
    private static int elementBehind(int set, int others) {
        int size = Integer.bitCount(set);
        if (size == 0 || others < 0) {
            return 0;
        }
        int left = others % size;
        for (int e = 0; e < MOST_ELEMENTS; e++) {
            if (isIn(set, e)) {
                if (left == 0) {
                    return e;
                }
                left--;
            }
        }
        return 0;
    }

    /** Values of sets; what follows from them (bases in a row, ranks) is laid down by settle. */
    private static final class Valuation {
        int n;
        int r;
        int size;
        final int[] values = new int[SETS];
        final int[] ranks = new int[SETS];
        final int[] bases = new int[MOST_BASES];

        void open(int elements, int inBase) {
            n = elements;
            r = inBase;
            size = 0;
            Arrays.fill(values, NO_VALUE);
        }

        /** Of several values for one set the greatest stays. */
        void offer(int set, int v) {
            if (set >= 0 && set < SETS) {
                values[set] = Math.max(values[set], v);
            }
        }

        void settle() {
            size = 0;
            for (int set = 0; set < SETS; set++) {
                if (values[set] != NO_VALUE && size < MOST_BASES) {
                    bases[size] = set;
                    size++;
                }
            }
            markFree();
            for (int set = 0; set < SETS; set++) {
                if (ranks[set] < 0) {
                    ranks[set] = rankByParts(set);
                }
            }
        }

        /** A set is free if it is a base or lies in a free one with one element more. */
        private void markFree() {
            for (int set = SETS - 1; set >= 0; set--) {
                boolean free = values[set] != NO_VALUE;
                for (int e = 0; e < n && !free; e++) {
                    free = !isIn(set, e) && ranks[set | 1 << e] >= 0;
                }
                ranks[set] = free ? Integer.bitCount(set) : NONE;
            }
        }

        private int rankByParts(int set) {
            int most = 0;
            for (int e = 0; e < MOST_ELEMENTS; e++) {
                if (isIn(set, e)) {
                    most = Math.max(most, ranks[set ^ 1 << e]);
                }
            }
            return most;
        }

        void take(Valuation from) {
            n = from.n;
            r = from.r;
            size = from.size;
            System.arraycopy(from.values, 0, values, 0, SETS);
            System.arraycopy(from.ranks, 0, ranks, 0, SETS);
            System.arraycopy(from.bases, 0, bases, 0, MOST_BASES);
        }

        int sets() {
            return 1 << n;
        }

        int all() {
            return sets() - 1;
        }

        boolean hasElement(int e) {
            return e >= 0 && e < n;
        }

        boolean hasSet(int set) {
            return set >= 0 && set < 1 << n;
        }

        boolean hasBase(int set) {
            return hasSet(set) && values[set] != NO_VALUE;
        }

        boolean isFree(int set) {
            return ranks[set] == Integer.bitCount(set);
        }

        int greatestValue() {
            return values[leastGreatest()];
        }

        int leastGreatest() {
            int best = bases[0];
            for (int k = 1; k < size; k++) {
                if (values[bases[k]] > values[best]) {
                    best = bases[k];
                }
            }
            return best;
        }
    }

    /** All that is kept and undone. */
    private static final class State {
        static final int NOTES = 20;
        static final int NOTE = 4;

        final Valuation[] shelves = new Valuation[SHELVES];
        final int[] prices = new int[MOST_ELEMENTS];
        final int[] notes = new int[NOTES * NOTE];
        int noted = 0;
        int x = 1;

        State() {
            for (int s = 0; s < SHELVES; s++) {
                Valuation v = new Valuation();
                v.open(2, 1);
                v.offer(1, 0);
                v.offer(2, 0);
                v.settle();
                shelves[s] = v;
            }
        }

        Valuation shelfAt(int s) {
            return s >= 0 && s < SHELVES ? shelves[s] : null;
        }

        void setPrice(int element, int v) {
            if (element >= 0 && element < MOST_ELEMENTS) {
                prices[element] = v;
            }
        }

        /** The latest note stands first, so that the oldest falls off the end. */
        void note(int s, int before, int after, int n) {
            System.arraycopy(notes, 0, notes, NOTE, (NOTES - 1) * NOTE);
            notes[0] = s;
            notes[1] = before;
            notes[2] = after;
            notes[3] = n;
            noted = Math.min(noted + 1, NOTES);
        }

        int howManyBases() {
            int all = 0;
            for (int s = 0; s < SHELVES; s++) {
                all += shelves[s].size;
            }
            return all;
        }

        void take(State from) {
            for (int s = 0; s < SHELVES; s++) {
                shelves[s].take(from.shelves[s]);
            }
            System.arraycopy(from.prices, 0, prices, 0, MOST_ELEMENTS);
            System.arraycopy(from.notes, 0, notes, 0, NOTES * NOTE);
            noted = from.noted;
            x = from.x;
        }
    }

    /** Reads a text of orders into rows of numbers, and tells a shelf as such a text. */
    private static final class Clauses {
        static final int PRICE = 0;
        static final int UNIFORM = 1;
        static final int MATCH = 2;
        static final int GRAPH = 3;
        static final int TOLD = 4;
        static final int DUAL = 5;
        static final int WITHOUT = 6;
        static final int BY = 7;
        static final int SHIFT = 8;
        static final int PLUS = 9;
        static final int CUT = 10;
        static final int INITIAL = 11;
        static final int RAISE = 12;
        static final int JOIN = 13;
        static final int KINDS = 14;

        static final int MOST_CLAUSES = 16;
        static final int MOST_DIGITS = 7;
        static final int MOST_CORNERS = 6;
        static final int HIGHEST_WEIGHT = 999;
        static final int MOST_NUMBERS = 100;
        static final int MOST_WRITTEN = 1024;
        static final int END = -1;

        int held;
        int faultTold;
        private int[] text = new int[0];
        private int length;
        private int place;
        private final int[] kinds = new int[MOST_CLAUSES];
        private final int[] starts = new int[MOST_CLAUSES + 1];
        private final int[] numbers = new int[MOST_NUMBERS];
        private int filled;
        final byte[] out = new byte[MOST_WRITTEN];
        int written;

        void read(int[] bytes, int n) {
            text = bytes;
            length = Math.min(n, bytes.length);
            place = 0;
            held = 0;
            filled = 0;
            faultTold = 0;
            for (int k = 0; k < MOST_CLAUSES && faultTold == 0; k++) {
                readClause(k);
                if (sign() == END) {
                    return;
                }
                place++;
            }
            refuse(4, place);
        }

        int kind(int k) {
            return k >= 0 && k < held ? kinds[k] : NONE;
        }

        int howManyNumbers(int k) {
            return k >= 0 && k < held ? starts[k + 1] - starts[k] : 0;
        }

        int number(int k, int i) {
            if (k < 0 || k >= held || i < 0 || i >= starts[k + 1] - starts[k]) {
                return 0;
            }
            return numbers[starts[k] + i];
        }

        /** The first fault stays: the text is read from the left. */
        private void refuse(int fault, int at) {
            if (faultTold == 0) {
                faultTold = -1000 * fault - at;
            }
        }

        private int sign() {
            return place < length ? text[place] : END;
        }

        private void readClause(int k) {
            starts[k] = filled;
            kinds[k] = readWord();
            if (kinds[k] == NONE) {
                return;
            }
            readHead(kinds[k]);
            held = k + 1;
            starts[held] = filled;
            if (kinds[k] == MATCH) {
                readWeights(number(k, 1) * number(k, 2));
            } else if (kinds[k] == GRAPH) {
                readEdges(number(k, 1), number(k, 2));
            } else if (kinds[k] == TOLD) {
                readSets(number(k, 1), number(k, 2));
            }
            starts[held] = filled;
            if (sign() != END && sign() != ';') {
                refuse(1, place);
            }
        }

        private int readWord() {
            int first = place;
            for (int left = length - first; left > 0 && sign() >= 'a' && sign() <= 'z'; left--) {
                place++;
            }
            for (int kind = 0; kind < KINDS; kind++) {
                if (isWord(word(kind), first)) {
                    return kind;
                }
            }
            refuse(1, first);
            return NONE;
        }

        private boolean isWord(String word, int first) {
            if (word.length() != place - first) {
                return false;
            }
            for (int k = 0; k < word.length(); k++) {
                if (text[first + k] != word.charAt(k)) {
                    return false;
                }
            }
            return true;
        }

        private static String word(int kind) {
            switch (kind) {
                case PRICE: return "price";
                case UNIFORM: return "uniform";
                case MATCH: return "match";
                case GRAPH: return "graph";
                case TOLD: return "told";
                case DUAL: return "dual";
                case WITHOUT: return "without";
                case BY: return "by";
                case SHIFT: return "shift";
                case PLUS: return "plus";
                case CUT: return "cut";
                case INITIAL: return "initial";
                case RAISE: return "raise";
                case JOIN: return "join";
                default: return "";
            }
        }

        private void readHead(int kind) {
            if (kind == PRICE) {
                readNumber(0, MOST_ELEMENTS - 1);
                readNumber(-HIGHEST_PRICE, HIGHEST_PRICE);
                return;
            }
            readNumber(0, SHELVES - 1);
            if (kind <= TOLD) {
                int n = readNumber(2, MOST_ELEMENTS);
                readNumber(kind == GRAPH ? 2 : 1, kind == GRAPH ? MOST_CORNERS : n - 1);
                return;
            }
            readNumber(0, SHELVES - 1);
            if (kind == WITHOUT || kind == BY) {
                readNumber(0, MOST_ELEMENTS - 1);
            } else if (kind == PLUS || kind == JOIN) {
                readNumber(0, SHELVES - 1);
            }
        }

        private void readWeights(int many) {
            for (int k = 0; k < many && faultTold == 0; k++) {
                readNumber(-HIGHEST_WEIGHT, HIGHEST_WEIGHT);
            }
        }

        private void readEdges(int n, int corners) {
            for (int e = 0; e < n && faultTold == 0; e++) {
                int from = readNumber(0, corners - 1);
                int at = place + 1;
                if (readNumber(0, corners - 1) == from) {
                    refuse(6, at);
                }
            }
        }

        private void readSets(int n, int r) {
            for (int k = 0; k < MOST_NUMBERS && faultTold == 0 && (k == 0 || sign() == ' '); k++) {
                int at = place + 1;
                int set = readNumber(0, SETS - 1);
                if (Integer.bitCount(set) != r || set >= 1 << n || wasTold(set, k)) {
                    refuse(6, at);
                }
                readNumber(-HIGHEST_VALUE, HIGHEST_VALUE);
            }
        }

        /** Sets and values take turns, so that the set ahead stands two ahead of the one just read. */
        private boolean wasTold(int set, int ahead) {
            for (int k = 1; k <= ahead; k++) {
                int at = filled - 1 - 2 * k;
                if (at >= 0 && numbers[at] == set) {
                    return true;
                }
            }
            return false;
        }

        /** A blank and a number; behind a fault nothing more is read. */
        private int readNumber(int least, int most) {
            if (sign() != ' ') {
                refuse(1, place);
            }
            if (faultTold != 0) {
                return 0;
            }
            place++;
            int first = place;
            boolean minus = sign() == '-';
            if (minus) {
                place++;
            }
            int size = readDigits();
            int number = minus ? -size : size;
            if (number < least || number > most) {
                refuse(3, first);
            }
            if (filled < MOST_NUMBERS) {
                numbers[filled] = number;
                filled++;
            }
            return number;
        }

        private int readDigits() {
            int first = place;
            int size = 0;
            for (int k = 0; k < MOST_DIGITS && isDigit(sign()); k++) {
                size = size * 10 + sign() - '0';
                place++;
            }
            if (place == first) {
                refuse(1, place);
            } else if (isDigit(sign())) {
                refuse(2, place);
            }
            return size;
        }

        private static boolean isDigit(int sign) {
            return sign >= '0' && sign <= '9';
        }

        void tell(Valuation v, int s) {
            written = 0;
            String word = word(TOLD);
            for (int k = 0; k < word.length(); k++) {
                write(word.charAt(k));
            }
            writeNumber(s);
            writeNumber(v.n);
            writeNumber(v.r);
            for (int k = 0; k < v.size; k++) {
                writeNumber(v.bases[k]);
                writeNumber(v.values[v.bases[k]]);
            }
        }

        private void write(int sign) {
            if (written < MOST_WRITTEN) {
                out[written] = (byte) sign;
                written++;
            }
        }

        private void writeNumber(int number) {
            write(' ');
            if (number < 0) {
                write('-');
            }
            int size = Math.abs(number);
            for (int unit = HIGHEST_VALUE; unit > 0; unit /= 10) {
                if (unit == 1 || size >= unit) {
                    write('0' + size / unit % 10);
                }
            }
        }
    }

    /** Makes the valuation that a clause asks for, aside, so that a shelf may be made of itself. */
    private static final class Maker {
        final Valuation made = new Valuation();
        private final int[] best = new int[SETS];

        boolean isMade(Clauses read, int k, State state) {
            int kind = read.kind(k);
            boolean opened;
            if (kind <= Clauses.TOLD) {
                opened = isTable(kind, read, k);
            } else {
                Valuation from = state.shelfAt(read.number(k, 1));
                opened = from != null && isDerived(kind, from, read.number(k, 2), state);
            }
            return opened && isWhole();
        }

        private boolean isTable(int kind, Clauses read, int k) {
            int r = kind == Clauses.GRAPH ? read.number(k, 2) - 1 : read.number(k, 2);
            if (!isOpened(read.number(k, 1), r)) {
                return false;
            }
            if (kind == Clauses.UNIFORM) {
                makeUniform();
            } else if (kind == Clauses.MATCH) {
                makeMatch(read, k);
            } else if (kind == Clauses.GRAPH) {
                makeGraph(read, k);
            } else {
                makeTold(read, k);
            }
            return true;
        }

        private boolean isDerived(int kind, Valuation from, int third, State state) {
            switch (kind) {
                case Clauses.DUAL: return isDual(from);
                case Clauses.WITHOUT: return isLess(from, third, 0);
                case Clauses.BY: return isLess(from, third, 1);
                case Clauses.SHIFT: return isShifted(from, state.prices);
                case Clauses.PLUS: return isPlus(from, state.shelfAt(third));
                case Clauses.CUT: return isCut(from);
                case Clauses.INITIAL: return isInitial(from, state.prices);
                case Clauses.RAISE: return isRaised(from);
                case Clauses.JOIN: return isJoined(from, state.shelfAt(third));
                default: return false;
            }
        }

        private boolean isOpened(int n, int r) {
            if (n < 2 || n > MOST_ELEMENTS || r < 1 || r > n - 1) {
                return false;
            }
            made.open(n, r);
            return true;
        }

        private boolean isWhole() {
            boolean any = false;
            for (int set = 0; set < SETS; set++) {
                int v = made.values[set];
                if (v != NO_VALUE) {
                    any = true;
                    if (v < -HIGHEST_VALUE || v > HIGHEST_VALUE) {
                        return false;
                    }
                }
            }
            if (any) {
                made.settle();
            }
            return any;
        }

        private void makeUniform() {
            for (int set = 0; set < made.sets(); set++) {
                if (Integer.bitCount(set) == made.r) {
                    made.offer(set, 0);
                }
            }
        }

        /** The first rows are spent on each set by its last row, so that a set needs only smaller ones. */
        private void makeMatch(Clauses read, int k) {
            best[0] = 0;
            for (int set = 1; set < made.sets(); set++) {
                int row = Integer.bitCount(set) - 1;
                if (row < made.r) {
                    best[set] = bestMatch(set, row, read, k);
                    if (row == made.r - 1) {
                        made.offer(set, best[set]);
                    }
                }
            }
        }

        private int bestMatch(int set, int row, Clauses read, int k) {
            int most = NO_VALUE;
            for (int e = 0; e < made.n; e++) {
                if (isIn(set, e)) {
                    most = Math.max(most, best[set ^ 1 << e] + read.number(k, 3 + row * made.n + e));
                }
            }
            return most;
        }

        private void makeGraph(Clauses read, int k) {
            for (int set = 0; set < made.sets(); set++) {
                if (Integer.bitCount(set) == made.r && isTree(set, read, k)) {
                    made.offer(set, 0);
                }
            }
        }

        /** One edge less than corners are a tree as soon as they reach all corners. */
        private boolean isTree(int set, Clauses read, int k) {
            int corners = made.r + 1;
            int reached = 1;
            for (int round = 0; round < corners; round++) {
                for (int e = 0; e < made.n; e++) {
                    int ends = 1 << read.number(k, 3 + 2 * e) | 1 << read.number(k, 4 + 2 * e);
                    if (isIn(set, e) && (reached & ends) != 0) {
                        reached |= ends;
                    }
                }
            }
            return reached == (1 << corners) - 1;
        }

        private void makeTold(Clauses read, int k) {
            for (int i = 3; i + 1 < read.howManyNumbers(k); i += 2) {
                made.offer(read.number(k, i), read.number(k, i + 1));
            }
        }

        private boolean isDual(Valuation from) {
            if (!isOpened(from.n, from.n - from.r)) {
                return false;
            }
            for (int p = 0; p < from.size; p++) {
                int base = from.bases[p];
                made.offer(from.all() ^ base, from.values[base]);
            }
            return true;
        }

        /** Bases that have the element (taken is 1) or do not (0), without it. */
        private boolean isLess(Valuation from, int element, int taken) {
            if (!from.hasElement(element) || !isOpened(from.n - 1, from.r - taken)) {
                return false;
            }
            int below = (1 << element) - 1;
            for (int p = 0; p < from.size; p++) {
                int base = from.bases[p];
                if ((base >> element & 1) == taken) {
                    made.offer(base & below | base >> 1 & ~below, from.values[base]);
                }
            }
            return true;
        }

        private boolean isShifted(Valuation from, int[] prices) {
            if (!isOpened(from.n, from.r)) {
                return false;
            }
            for (int p = 0; p < from.size; p++) {
                int base = from.bases[p];
                made.offer(base, from.values[base] + Sums.ofPrices(base, prices));
            }
            return true;
        }

        private boolean isPlus(Valuation from, Valuation behind) {
            if (behind == null || !isOpened(from.n + behind.n, from.r + behind.r)) {
                return false;
            }
            for (int p = 0; p < from.size; p++) {
                for (int q = 0; q < behind.size; q++) {
                    int a = from.bases[p];
                    int b = behind.bases[q];
                    made.offer(a | b << from.n, from.values[a] + behind.values[b]);
                }
            }
            return true;
        }

        private boolean isCut(Valuation from) {
            if (!isOpened(from.n, from.r - 1)) {
                return false;
            }
            offerBeside(from, true);
            return true;
        }

        /** Turned over, cut and turned over again, a set has the best of those it has with one element less. */
        private boolean isRaised(Valuation from) {
            if (!isOpened(from.n, from.r + 1)) {
                return false;
            }
            offerBeside(from, false);
            return true;
        }

        private void offerBeside(Valuation from, boolean smaller) {
            for (int p = 0; p < from.size; p++) {
                int base = from.bases[p];
                for (int e = 0; e < from.n; e++) {
                    if (isIn(base, e) == smaller) {
                        made.offer(base ^ 1 << e, from.values[base]);
                    }
                }
            }
        }

        private boolean isInitial(Valuation from, int[] prices) {
            if (!isOpened(from.n, from.r)) {
                return false;
            }
            int greatest = NO_VALUE;
            for (int p = 0; p < from.size; p++) {
                greatest = Math.max(greatest, Sums.of(from, from.bases[p], prices));
            }
            for (int p = 0; p < from.size; p++) {
                if (Sums.of(from, from.bases[p], prices) == greatest) {
                    made.offer(from.bases[p], 0);
                }
            }
            return true;
        }

        private boolean isJoined(Valuation from, Valuation with) {
            if (!haveSameElements(from, with) || !isOpened(from.n, from.r + with.r)) {
                return false;
            }
            for (int p = 0; p < from.size; p++) {
                for (int q = 0; q < with.size; q++) {
                    int a = from.bases[p];
                    int b = with.bases[q];
                    if ((a & b) == 0) {
                        made.offer(a | b, from.values[a] + with.values[b]);
                    }
                }
            }
            return true;
        }
    }

    /** The law of exchange: goes through all rows A, B, i. */
    private static final class Law {
        static final int ALL = 2147483647;

        int a;
        int b;
        int i;
        private final int[] zeros = new int[SETS];

        /** How many faults come up to the wanted one (counted from 0), which is left in a, b, i. */
        int meets(Valuation v, int[] values, int wanted) {
            int met = 0;
            for (int p = 0; p < v.size; p++) {
                for (int q = 0; q < v.size; q++) {
                    met = meetsFor(values, v.bases[p], v.bases[q], met, wanted);
                    if (met > wanted) {
                        return met;
                    }
                }
            }
            return met;
        }

        private int meetsFor(int[] values, int first, int second, int metAhead, int wanted) {
            if (values[first] == NO_VALUE || values[second] == NO_VALUE) {
                return metAhead;
            }
            int met = metAhead;
            int alone = first & ~second;
            for (int e = 0; e < MOST_ELEMENTS && met <= wanted; e++) {
                if (isIn(alone, e) && partner(values, first, second, e) < 0) {
                    a = first;
                    b = second;
                    i = e;
                    met++;
                }
            }
            return met;
        }

        static int partner(int[] values, int a, int b, int i) {
            int together = values[a] + values[b];
            int alone = b & ~a;
            for (int j = 0; j < MOST_ELEMENTS; j++) {
                if (isIn(alone, j)) {
                    int swap = 1 << i | 1 << j;
                    int first = values[a ^ swap];
                    int second = values[b ^ swap];
                    if (first != NO_VALUE && second != NO_VALUE && first + second >= together) {
                        return j;
                    }
                }
            }
            return NOTHING;
        }

        int[] flat(Valuation v) {
            Arrays.fill(zeros, NO_VALUE);
            for (int p = 0; p < v.size; p++) {
                zeros[v.bases[p]] = 0;
            }
            return zeros;
        }

        int[] flatGreatest(Valuation v, Sums sums) {
            Arrays.fill(zeros, NO_VALUE);
            for (int p = 0; p < v.size; p++) {
                if (sums.isGreatest(v.bases[p])) {
                    zeros[v.bases[p]] = 0;
                }
            }
            return zeros;
        }
    }

    /** Sums of bases by prices, and the greedy way over them. */
    private static final class Sums {
        final int[] table = new int[SETS];
        int greatest;
        int last;
        int steps;

        static int ofPrices(int set, int[] prices) {
            int sum = 0;
            for (int e = 0; e < MOST_ELEMENTS; e++) {
                sum += (set >> e & 1) * prices[e];
            }
            return sum;
        }

        static int of(Valuation v, int base, int[] prices) {
            return v.values[base] + ofPrices(base, prices);
        }

        void fill(Valuation v, int[] prices) {
            Arrays.fill(table, NO_VALUE);
            greatest = NO_VALUE;
            for (int p = 0; p < v.size; p++) {
                int base = v.bases[p];
                table[base] = of(v, base, prices);
                greatest = Math.max(greatest, table[base]);
            }
        }

        boolean isGreatest(int base) {
            return table[base] == greatest;
        }

        /** Each step has a greater sum, so that there are fewer steps than bases. */
        void climb(Valuation v, int from) {
            last = from;
            steps = 0;
            for (int k = 0; k < v.size; k++) {
                int to = bestBeside(v, last);
                if (to == last) {
                    return;
                }
                last = to;
                steps++;
            }
        }

        private int bestBeside(Valuation v, int base) {
            int best = base;
            for (int i = 0; i < v.n; i++) {
                for (int j = 0; j < v.n; j++) {
                    if (isIn(base, i) && !isIn(base, j)) {
                        int to = base ^ (1 << i | 1 << j);
                        boolean like = table[to] == table[best] && best != base;
                        if (table[to] > table[best] || like && to < best) {
                            best = to;
                        }
                    }
                }
            }
            return best;
        }

        int howManyGreatest(Valuation v) {
            int found = 0;
            for (int p = 0; p < v.size; p++) {
                found += bit(isGreatest(v.bases[p]));
            }
            return found;
        }

        int greatestAt(Valuation v, int k) {
            int left = k;
            for (int p = 0; p < v.size; p++) {
                if (isGreatest(v.bases[p])) {
                    if (left == 0) {
                        return v.bases[p];
                    }
                    left--;
                }
            }
            return NOT_SO_MANY;
        }

        int greatestBy(Valuation v, int element, boolean with) {
            int most = NO_VALUE;
            for (int p = 0; p < v.size; p++) {
                if (isIn(v.bases[p], element) == with) {
                    most = Math.max(most, table[v.bases[p]]);
                }
            }
            return most;
        }
    }

    /** Numbers of some elements, and the sets at which they fail to lie in the space of a valuation. */
    private static final class Space {
        private final int[] numbers = new int[MOST_ELEMENTS];
        private int having;

        void takePrices(Valuation v, int[] prices) {
            System.arraycopy(prices, 0, numbers, 0, MOST_ELEMENTS);
            having = v.all();
        }

        private void takeAround(Valuation v, int small) {
            having = 0;
            for (int e = 0; e < v.n; e++) {
                if (!isIn(small, e) && v.hasBase(small | 1 << e)) {
                    numbers[e] = v.values[small | 1 << e];
                    having |= 1 << e;
                }
            }
        }

        private boolean failsAt(Valuation v, int set) {
            int most = NO_VALUE;
            int times = 0;
            for (int e = 0; e < v.n; e++) {
                if (isIn(set & having, e) && v.hasBase(set ^ 1 << e)) {
                    int sum = v.values[set ^ 1 << e] + numbers[e];
                    if (sum > most) {
                        most = sum;
                        times = 0;
                    }
                    times += bit(sum == most);
                }
            }
            return times == 1;
        }

        int failingAt(Valuation v, int k) {
            int left = k;
            for (int set = 0; set < v.sets(); set++) {
                if (Integer.bitCount(set) == v.r + 1 && failsAt(v, set)) {
                    if (left == 0) {
                        return set;
                    }
                    left--;
                }
            }
            return NOT_SO_MANY;
        }

        int howManyFailing(Valuation v) {
            int found = 0;
            for (int set = 0; set < v.sets(); set++) {
                if (Integer.bitCount(set) == v.r + 1) {
                    found += bit(failsAt(v, set));
                }
            }
            return found;
        }

        boolean isFull(Valuation v) {
            return failingAt(v, 0) == NOT_SO_MANY;
        }

        int howManySpanned(Valuation v) {
            int found = 0;
            for (int set = 0; set < v.sets(); set++) {
                if (Integer.bitCount(set) == v.r - 1 && v.isFree(set)) {
                    takeAround(v, set);
                    found += bit(isFull(v));
                }
            }
            return found;
        }
    }

    /** What two valuations have together. */
    private static final class Couple {
        int size;
        int common;
        int together;
        final int[] potentials = new int[MOST_ELEMENTS];

        void meet(Valuation v, Valuation w) {
            clear();
            for (int p = 0; p < v.size; p++) {
                int base = v.bases[p];
                if (w.hasBase(base)) {
                    offer(base, v.values[base] + w.values[base]);
                }
            }
        }

        void meetFree(Valuation v, Valuation w, int k, int[] prices) {
            clear();
            for (int set = 0; set < v.sets(); set++) {
                if (Integer.bitCount(set) == k && v.isFree(set) && w.isFree(set)) {
                    offer(set, Sums.ofPrices(set, prices));
                }
            }
        }

        private void clear() {
            size = 0;
            common = 0;
            together = NO_VALUE;
        }

        private void offer(int set, int sum) {
            size++;
            if (sum > together) {
                together = sum;
                common = set;
            }
        }

        /** Without a ring that goes down for ever, all numbers rest after as many rounds as there are elements. */
        boolean hasPotentials(Valuation v, Valuation w) {
            if (size == 0) {
                return false;
            }
            Arrays.fill(potentials, 0);
            for (int round = 0; round <= v.n; round++) {
                if (!isLowered(v, w)) {
                    return true;
                }
            }
            return false;
        }

        private boolean isLowered(Valuation v, Valuation w) {
            boolean lowered = false;
            for (int i = 0; i < v.n; i++) {
                for (int j = 0; j < v.n; j++) {
                    if (isIn(common, i) && !isIn(common, j)) {
                        lowered |= isBounded(j, i, v, common ^ (1 << i | 1 << j));
                        lowered |= isBounded(i, j, w, common ^ (1 << i | 1 << j));
                    }
                }
            }
            return lowered;
        }

        private boolean isBounded(int element, int by, Valuation v, int other) {
            if (!v.hasBase(other)) {
                return false;
            }
            int bound = potentials[by] + v.values[common] - v.values[other];
            if (potentials[element] <= bound) {
                return false;
            }
            potentials[element] = bound;
            return true;
        }

        static int spread(Valuation v, Valuation w) {
            int most = 0;
            int least = 0;
            boolean any = false;
            for (int p = 0; p < v.size; p++) {
                int base = v.bases[p];
                if (w.hasBase(base)) {
                    int more = v.values[base] - w.values[base];
                    most = any ? Math.max(most, more) : more;
                    least = any ? Math.min(least, more) : more;
                    any = true;
                }
            }
            return any ? most - least : NOTHING;
        }
    }

    /** Ways over bases, each unlike the one ahead by one element. */
    private static final class Ways {
        final int[] steps = new int[SETS];
        final int[] widths = new int[SETS];
        private final int[] row = new int[MOST_BASES];

        /** Fewest steps to each base, NONE where no way leads. */
        int measure(Valuation v, int from) {
            Arrays.fill(steps, NONE);
            steps[from] = 0;
            row[0] = from;
            int reached = 1;
            for (int k = 0; k < MOST_BASES && k < reached; k++) {
                reached = reachFrom(v, row[k], reached);
            }
            return reached;
        }

        private int reachFrom(Valuation v, int base, int reachedAhead) {
            int reached = reachedAhead;
            for (int p = 0; p < v.size; p++) {
                int to = v.bases[p];
                if (steps[to] < 0 && areBeside(base, to) && reached < MOST_BASES) {
                    steps[to] = steps[base] + 1;
                    row[reached] = to;
                    reached++;
                }
            }
            return reached;
        }

        static boolean areBeside(int a, int b) {
            return Integer.bitCount(a ^ b) == 2;
        }

        /** Of all ways the greatest least sum; a base whose width is the greatest left can't get a greater one. */
        void widen(Valuation v, int from, int[] sums) {
            Arrays.fill(steps, NONE);
            Arrays.fill(widths, NO_VALUE);
            widths[from] = sums[from];
            for (int k = 0; k < v.size; k++) {
                int base = widestLeft(v);
                if (widths[base] == NO_VALUE) {
                    return;
                }
                steps[base] = k;
                for (int p = 0; p < v.size; p++) {
                    int to = v.bases[p];
                    if (areBeside(base, to)) {
                        widths[to] = Math.max(widths[to], Math.min(widths[base], sums[to]));
                    }
                }
            }
        }

        private int widestLeft(Valuation v) {
            int best = NONE;
            for (int p = 0; p < v.size; p++) {
                int base = v.bases[p];
                if (steps[base] < 0 && (best == NONE || widths[base] > widths[best])) {
                    best = base;
                }
            }
            return best == NONE ? v.bases[0] : best;
        }

        int widest(Valuation v) {
            int most = 0;
            for (int p = 0; p < v.size; p++) {
                int reached = measure(v, v.bases[p]);
                if (reached < v.size) {
                    return NOTHING;
                }
                most = Math.max(most, steps[row[reached - 1]]);
            }
            return most;
        }

        static int howManyBeside(Valuation v, int base) {
            int found = 0;
            for (int p = 0; p < v.size; p++) {
                found += bit(areBeside(base, v.bases[p]));
            }
            return found;
        }

        static int howManyPairs(Valuation v) {
            int ends = 0;
            for (int p = 0; p < v.size; p++) {
                ends += howManyBeside(v, v.bases[p]);
            }
            return ends / 2;
        }

        /** Which base, counted from 0, is in the most pairs. */
        static int mostBeside(Valuation v) {
            int best = 0;
            int most = NONE;
            for (int p = 0; p < v.size; p++) {
                int found = howManyBeside(v, v.bases[p]);
                if (found > most) {
                    most = found;
                    best = p;
                }
            }
            return best;
        }
    }

    /** Rows of elements that put one valuation onto another. */
    private static final class Rows {
        static final int MOST_TURNS = 1000000;

        final int[] first = new int[MOST_ELEMENTS];
        private final int[] row = new int[MOST_ELEMENTS];
        private final int[] images = new int[SETS];
        private final long[] marks = new long[MOST_ELEMENTS];
        private final long[] imageMarks = new long[MOST_ELEMENTS];

        boolean isFound(Valuation v, Valuation w) {
            for (int e = 0; e < v.n; e++) {
                marks[e] = mark(v, e);
                imageMarks[e] = mark(w, e);
            }
            if (!isCompleted(v, w, 0)) {
                return false;
            }
            System.arraycopy(row, 0, first, 0, MOST_ELEMENTS);
            return true;
        }

        /** An element goes only to one whose bases have the same values, so that most rows end at once. */
        private static long mark(Valuation v, int element) {
            long sum = 0;
            for (int p = 0; p < v.size; p++) {
                if (isIn(v.bases[p], element)) {
                    long value = HIGHEST_VALUE + 1L + v.values[v.bases[p]];
                    sum += value * value;
                }
            }
            return sum;
        }

        /**
         * Rows with the same beginning go over into one another by what puts the second valuation onto itself, so
         * that each element that can stand next has as many rows behind it as the others: their numbers multiply.
         */
        int howMany(Valuation v, Valuation w) {
            int all = 1;
            for (int at = 0; at < v.n; at++) {
                int going = 0;
                for (int e = 0; e < v.n; e++) {
                    row[at] = e;
                    if (!isUsed(at, e) && suits(v, w, at)) {
                        going += bit(isCompleted(v, w, at + 1));
                    }
                }
                all *= going;
                row[at] = first[at];
                suits(v, w, at);
            }
            return all;
        }

        /** Looks for the first row that goes on from what stands ahead of a place. */
        private boolean isCompleted(Valuation v, Valuation w, int from) {
            int at = from;
            int least = 0;
            for (int turn = 0; turn < MOST_TURNS && at >= from && at < v.n; turn++) {
                row[at] = nextUnused(at, least, v.n);
                if (row[at] == v.n) {
                    at--;
                    least = at >= from ? row[at] + 1 : 0;
                } else if (suits(v, w, at)) {
                    at++;
                    least = 0;
                } else {
                    least = row[at] + 1;
                }
            }
            return at >= v.n;
        }

        private int nextUnused(int at, int least, int n) {
            for (int e = least; e < n; e++) {
                if (!isUsed(at, e)) {
                    return e;
                }
            }
            return n;
        }

        private boolean isUsed(int at, int element) {
            for (int k = 0; k < at; k++) {
                if (row[k] == element) {
                    return true;
                }
            }
            return false;
        }

        /** Lays down the images of all sets whose last element stands at this place, as far as they suit. */
        private boolean suits(Valuation v, Valuation w, int at) {
            if (marks[at] != imageMarks[row[at]]) {
                return false;
            }
            images[0] = 0;
            for (int below = 0; below < 1 << at; below++) {
                int set = below | 1 << at;
                images[set] = images[below] | 1 << row[at];
                if (v.values[set] != w.values[images[set]]) {
                    return false;
                }
            }
            return true;
        }
    }

    /** What follows from which sets are bases, whatever their values. */
    private static final class Shape {
        static int loops(Valuation v) {
            int left = v.all();
            for (int p = 0; p < v.size; p++) {
                left &= ~v.bases[p];
            }
            return left;
        }

        static int bridges(Valuation v) {
            int left = v.all();
            for (int p = 0; p < v.size; p++) {
                left &= v.bases[p];
            }
            return left;
        }

        static int freeSets(Valuation v) {
            int found = 0;
            for (int set = 0; set < v.sets(); set++) {
                found += bit(v.isFree(set));
            }
            return found;
        }

        static int freeSized(Valuation v, int k) {
            int found = 0;
            for (int set = 0; set < v.sets(); set++) {
                found += bit(Integer.bitCount(set) == k && v.isFree(set));
            }
            return found;
        }

        static int closed(Valuation v, int set) {
            int with = set;
            for (int e = 0; e < v.n; e++) {
                if (v.ranks[set | 1 << e] == v.ranks[set]) {
                    with |= 1 << e;
                }
            }
            return with;
        }

        static int flats(Valuation v) {
            int found = 0;
            for (int set = 0; set < v.sets(); set++) {
                found += bit(closed(v, set) == set);
            }
            return found;
        }

        static boolean hasFlatsOf(Valuation v, Valuation w) {
            for (int set = 0; set < w.sets(); set++) {
                if (closed(w, set) == set && closed(v, set) != set) {
                    return false;
                }
            }
            return true;
        }

        /** All smaller sets are free if those with one element less are. */
        static boolean isCircuit(Valuation v, int set) {
            if (v.isFree(set)) {
                return false;
            }
            for (int e = 0; e < v.n; e++) {
                if (isIn(set, e) && !v.isFree(set ^ 1 << e)) {
                    return false;
                }
            }
            return true;
        }

        static int circuits(Valuation v) {
            int found = 0;
            for (int set = 0; set < v.sets(); set++) {
                found += bit(isCircuit(v, set));
            }
            return found;
        }

        static int circuitAt(Valuation v, int k) {
            int left = k;
            for (int set = 0; set < v.sets(); set++) {
                if (isCircuit(v, set)) {
                    if (left == 0) {
                        return set;
                    }
                    left--;
                }
            }
            return NOT_SO_MANY;
        }

        static int leastHanging(Valuation v, int element) {
            int hanging = 1 << element;
            for (int round = 0; round < v.n; round++) {
                for (int set = 0; set < v.sets(); set++) {
                    if ((set & hanging) != 0 && isCircuit(v, set)) {
                        hanging |= set;
                    }
                }
            }
            return elementBehind(hanging, 0);
        }

        /** What is covered lies in bases, so that each set is one base more than what that base leaves of it. */
        static int covers(Valuation v, int[] fewest) {
            if (loops(v) != 0) {
                return NOTHING;
            }
            fewest[0] = 0;
            for (int set = 1; set < v.sets(); set++) {
                int best = MOST_ELEMENTS;
                for (int p = 0; p < v.size; p++) {
                    if ((set & v.bases[p]) != 0) {
                        best = Math.min(best, fewest[set & ~v.bases[p]] + 1);
                    }
                }
                fewest[set] = best;
            }
            return fewest[v.all()];
        }

        static int packs(Valuation v, int[] most) {
            for (int set = 0; set < v.sets(); set++) {
                int best = 0;
                for (int p = 0; p < v.size; p++) {
                    if ((v.bases[p] & ~set) == 0) {
                        best = Math.max(best, most[set ^ v.bases[p]] + 1);
                    }
                }
                most[set] = best;
            }
            return most[v.all()];
        }

        static long tutteSum(Valuation v, int x, int y) {
            long sum = 0;
            for (int set = 0; set < v.sets(); set++) {
                int rank = v.ranks[set];
                sum += power(x, v.r - rank) * power(y, Integer.bitCount(set) - rank);
            }
            return sum;
        }

        private static long power(int x, int times) {
            long product = 1;
            for (int k = 0; k < times; k++) {
                product *= x;
            }
            return product;
        }

        static long factorial(int k) {
            long product = 1;
            for (int i = 2; i <= k; i++) {
                product *= i;
            }
            return product;
        }

        /** In how many orders an element raises the rank of those ahead of it. */
        static long raisingOrders(Valuation v, int element) {
            long orders = 0;
            for (int set = 0; set < v.sets(); set++) {
                if (!isIn(set, element)) {
                    int ahead = Integer.bitCount(set);
                    int raised = v.ranks[set | 1 << element] - v.ranks[set];
                    orders += raised * factorial(ahead) * factorial(v.n - 1 - ahead);
                }
            }
            return orders;
        }

        static long commonDivisor(long above, long below) {
            long a = above;
            long b = below;
            for (int k = 0; k < 64 && b != 0; k++) {
                long rest = a % b;
                a = b;
                b = rest;
            }
            return a;
        }

        static boolean isBinary(Valuation v) {
            for (int four = 0; four < v.sets(); four++) {
                if (Integer.bitCount(four) == 4) {
                    for (int set = 0; set < v.sets(); set++) {
                        if ((set & four) == 0 && isLine(v, set, four)) {
                            return false;
                        }
                    }
                }
            }
            return true;
        }

        /** Whether the four, and each two of them, raise the rank of the set by two. */
        private static boolean isLine(Valuation v, int set, int four) {
            int raised = v.ranks[set] + 2;
            if (v.ranks[set | four] != raised) {
                return false;
            }
            for (int a = 0; a < v.n; a++) {
                for (int b = a + 1; b < v.n; b++) {
                    if (isIn(four, a) && isIn(four, b) && v.ranks[set | 1 << a | 1 << b] != raised) {
                        return false;
                    }
                }
            }
            return true;
        }

        /** For each free set 1 and the least element that wins, or 0; larger sets first. */
        static void play(Valuation v, int[] winning) {
            for (int set = v.all(); set >= 0; set--) {
                winning[set] = 0;
                for (int e = v.n - 1; e >= 0; e--) {
                    int with = set | 1 << e;
                    if (with != set && v.isFree(with) && winning[with] == 0) {
                        winning[set] = 1 + e;
                    }
                }
            }
        }
    }
}
