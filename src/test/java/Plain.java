import java.util.ArrayDeque;
import java.util.ArrayList;
import java.util.Arrays;
import java.util.HashMap;
import java.util.LinkedList;
import java.util.List;
import java.util.Map;
import java.util.TreeMap;
import java.util.TreeSet;

/**
 * The document once more, word by word and with no thought of speed: the tests hold PricedBases against it. It shares
 * no code with PricedBases and goes other ways wherever there are any.
 */
final class Plain {
    static final int NONE = -1;
    static final int NO_VALUE = Integer.MIN_VALUE;

    /** A valuation: its bases, rising, with their values. */
    static final class Val {
        final int n;
        final int r;
        final TreeMap<Integer, Integer> of = new TreeMap<>();
        private int[] ranks;

        Val(int n, int r) {
            this.n = n;
            this.r = r;
        }

        int rank(int set) {
            if (ranks == null) {
                ranks = new int[1 << n];
                for (int s = 0; s < 1 << n; s++) {
                    for (int b : of.keySet()) {
                        ranks[s] = Math.max(ranks[s], Integer.bitCount(s & b));
                    }
                }
            }
            return ranks[set];
        }

        boolean free(int set) {
            return rank(set) == Integer.bitCount(set);
        }

        int closure(int set) {
            int all = 0;
            for (int e = 0; e < n; e++) {
                if ((set >> e & 1) == 1 || rank(set | 1 << e) == rank(set)) {
                    all |= 1 << e;
                }
            }
            return all;
        }

        List<Integer> flats() {
            List<Integer> found = new ArrayList<>();
            for (int s = 0; s < 1 << n; s++) {
                if (closure(s) == s) {
                    found.add(s);
                }
            }
            return found;
        }

        List<Integer> circuits() {
            List<Integer> found = new ArrayList<>();
            for (int s = 0; s < 1 << n; s++) {
                boolean is = !free(s);
                for (int t = 0; t < s && is; t++) {
                    if ((t & ~s) == 0 && !free(t)) {
                        is = false;
                    }
                }
                if (is) {
                    found.add(s);
                }
            }
            return found;
        }

        List<Integer> elements(int set) {
            List<Integer> found = new ArrayList<>();
            for (int e = 0; e < n; e++) {
                if ((set >> e & 1) == 1) {
                    found.add(e);
                }
            }
            return found;
        }
    }

    static final class Fault extends Exception {
        final int told;

        Fault(int number, int place) {
            told = -1000 * number - place;
        }
    }

    /** One clause: its word and numbers. */
    static final class Clause {
        String word;
        final List<Integer> numbers = new ArrayList<>();
    }

    private Val[] shelves = new Val[4];
    private int[] prices = new int[8];
    private int x = 1;
    private LinkedList<int[]> past = new LinkedList<>();
    private Val[] keptShelves;
    private int[] keptPrices;
    private int keptX;
    private LinkedList<int[]> keptPast;
    private final List<Integer> tape = new ArrayList<>();

    Plain() {
        for (int s = 0; s < 4; s++) {
            shelves[s] = new Val(2, 1);
            shelves[s].of.put(1, 0);
            shelves[s].of.put(2, 0);
        }
    }

    int feed(int a, int b, int c, int d, int e) {
        if (tape.size() > 220) {
            return NONE;
        }
        for (int w : new int[] {a, b, c, d, e}) {
            tape.add(w >> 24 & 255);
            tape.add(w >> 16 & 255);
            tape.add(w >> 8 & 255);
            tape.add(w & 255);
        }
        return tape.size();
    }

    int orders(int n) {
        if (n < 1 || n > 200 || tape.size() < n) {
            return NONE;
        }
        StringBuilder text = new StringBuilder();
        for (int k = 0; k < n; k++) {
            text.append((char) (int) tape.get(k));
        }
        tape.clear();
        List<Clause> clauses;
        try {
            clauses = new Reader(text.toString()).read();
        } catch (Fault f) {
            return f.told;
        }
        int done = 0;
        for (Clause c : clauses) {
            if (!doClause(c)) {
                break;
            }
            done++;
        }
        return done;
    }

    static final class Reader {
        private final String text;
        private int at = 0;
        private Clause now;

        Reader(String text) {
            this.text = text;
        }

        private boolean has(String signs) {
            return at < text.length() && signs.indexOf(text.charAt(at)) >= 0;
        }

        List<Clause> read() throws Fault {
            List<Clause> all = new ArrayList<>();
            while (true) {
                if (all.size() == 16) {
                    throw new Fault(4, at);
                }
                now = new Clause();
                clause();
                all.add(now);
                if (at == text.length()) {
                    return all;
                }
                if (!has(";")) {
                    throw new Fault(1, at);
                }
                at++;
            }
        }

        private void clause() throws Fault {
            int start = at;
            while (has("abcdefghijklmnopqrstuvwxyz")) {
                at++;
            }
            now.word = text.substring(start, at);
            if (now.word.equals("price")) {
                number(0, 7);
                number(-1000, 1000);
            } else if (now.word.equals("uniform") || now.word.equals("match") || now.word.equals("told")) {
                number(0, 3);
                int n = number(2, 8);
                int r = number(1, n - 1);
                if (now.word.equals("match")) {
                    for (int row = 0; row < r; row++) {
                        for (int e = 0; e < n; e++) {
                            number(-999, 999);
                        }
                    }
                } else if (now.word.equals("told")) {
                    TreeSet<Integer> had = new TreeSet<>();
                    do {
                        int place = at + 1;
                        int set = number(0, 255);
                        if (Integer.bitCount(set) != r || set >> n != 0 || !had.add(set)) {
                            throw new Fault(6, place);
                        }
                        number(-1000000, 1000000);
                    } while (has(" "));
                }
            } else if (now.word.equals("graph")) {
                number(0, 3);
                int n = number(2, 8);
                int v = number(2, 6);
                for (int e = 0; e < n; e++) {
                    int a = number(0, v - 1);
                    int place = at + 1;
                    int b = number(0, v - 1);
                    if (a == b) {
                        throw new Fault(6, place);
                    }
                }
            } else if (Arrays.asList("dual", "shift", "cut", "initial", "raise").contains(now.word)) {
                number(0, 3);
                number(0, 3);
            } else if (now.word.equals("plus") || now.word.equals("join")) {
                number(0, 3);
                number(0, 3);
                number(0, 3);
            } else if (now.word.equals("without") || now.word.equals("by")) {
                number(0, 3);
                number(0, 3);
                number(0, 7);
            } else {
                throw new Fault(1, start);
            }
        }

        private int number(int least, int most) throws Fault {
            if (!has(" ")) {
                throw new Fault(1, at);
            }
            at++;
            int start = at;
            if (has("-")) {
                at++;
            }
            int digits = at;
            while (has("0123456789")) {
                if (at - digits == 7) {
                    throw new Fault(2, at);
                }
                at++;
            }
            if (at == digits) {
                throw new Fault(1, at);
            }
            int v = Integer.parseInt(text.substring(start, at));
            if (v < least || v > most) {
                throw new Fault(3, start);
            }
            now.numbers.add(v);
            return v;
        }
    }

    private boolean doClause(Clause c) {
        List<Integer> a = c.numbers;
        if (c.word.equals("price")) {
            prices[a.get(0)] = a.get(1);
            return true;
        }
        Val made = make(c.word, a);
        if (made == null || made.n < 2 || made.n > 8 || made.r < 1 || made.r > made.n - 1 || made.of.isEmpty()) {
            return false;
        }
        for (int v : made.of.values()) {
            if (v < -1000000 || v > 1000000) {
                return false;
            }
        }
        int s = a.get(0);
        past.addFirst(new int[] {s, shelves[s].of.size(), made.of.size(), made.n});
        while (past.size() > 20) {
            past.removeLast();
        }
        shelves[s] = made;
        return true;
    }

    private Val make(String word, List<Integer> a) {
        switch (word) {
            case "uniform": {
                Val v = new Val(a.get(1), a.get(2));
                for (int s = 0; s < 1 << v.n; s++) {
                    if (Integer.bitCount(s) == v.r) {
                        v.of.put(s, 0);
                    }
                }
                return v;
            }
            case "match": {
                Val v = new Val(a.get(1), a.get(2));
                match(v, a.subList(3, a.size()), 0, 0, 0);
                return v;
            }
            case "graph": {
                Val v = new Val(a.get(1), a.get(2) - 1);
                for (int s = 0; s < 1 << v.n; s++) {
                    if (Integer.bitCount(s) == v.r && tree(s, v.n, a.get(2), a.subList(3, a.size()))) {
                        v.of.put(s, 0);
                    }
                }
                return v;
            }
            case "told": {
                Val v = new Val(a.get(1), a.get(2));
                for (int k = 3; k < a.size(); k += 2) {
                    v.of.put(a.get(k), a.get(k + 1));
                }
                return v;
            }
            case "plus": case "join":
                return two(word, shelves[a.get(1)], shelves[a.get(2)]);
            default:
                return one(word, shelves[a.get(1)], a.size() > 2 ? a.get(2) : 0);
        }
    }

    private static void match(Val v, List<Integer> w, int row, int set, int sum) {
        if (row == v.r) {
            v.of.merge(set, sum, Math::max);
            return;
        }
        for (int e = 0; e < v.n; e++) {
            if ((set >> e & 1) == 0) {
                match(v, w, row + 1, set | 1 << e, sum + w.get(row * v.n + e));
            }
        }
    }

    /** As many edges as a tree has, and none of them closes a ring. */
    private static boolean tree(int set, int n, int corners, List<Integer> edges) {
        int[] label = new int[corners];
        for (int c = 0; c < corners; c++) {
            label[c] = c;
        }
        for (int e = 0; e < n; e++) {
            if ((set >> e & 1) == 1) {
                int a = label[edges.get(2 * e)];
                int b = label[edges.get(2 * e + 1)];
                if (a == b) {
                    return false;
                }
                for (int c = 0; c < corners; c++) {
                    label[c] = label[c] == a ? b : label[c];
                }
            }
        }
        return true;
    }

    private static Val two(String word, Val k, Val l) {
        if (word.equals("join") && k.n != l.n) {
            return null;
        }
        boolean plus = word.equals("plus");
        Val v = new Val(plus ? k.n + l.n : k.n, k.r + l.r);
        for (Map.Entry<Integer, Integer> p : k.of.entrySet()) {
            for (Map.Entry<Integer, Integer> q : l.of.entrySet()) {
                int sum = p.getValue() + q.getValue();
                if (plus) {
                    v.of.put(p.getKey() + (q.getKey() << k.n), sum);
                } else if ((p.getKey() & q.getKey()) == 0) {
                    v.of.merge(p.getKey() + q.getKey(), sum, Math::max);
                }
            }
        }
        return v;
    }

    private Val one(String word, Val k, int e) {
        switch (word) {
            case "dual": return dual(k);
            case "cut": return cut(k);
            case "raise": {
                Val v = cut(dual(k));
                return v.r < 1 ? null : dual(v);
            }
            case "without": case "by": {
                if (e >= k.n) {
                    return null;
                }
                boolean by = word.equals("by");
                Val v = new Val(k.n - 1, by ? k.r - 1 : k.r);
                k.of.forEach((set, value) -> {
                    if ((set >> e & 1) == (by ? 1 : 0)) {
                        int less = 0;
                        for (int i : k.elements(set)) {
                            less |= i == e ? 0 : 1 << (i > e ? i - 1 : i);
                        }
                        v.of.put(less, value);
                    }
                });
                return v;
            }
            case "shift": {
                Val v = new Val(k.n, k.r);
                k.of.forEach((set, value) -> v.of.put(set, sum(k, set, prices)));
                return v;
            }
            case "initial": {
                Val v = new Val(k.n, k.r);
                for (int set : greatestOnes(k, prices)) {
                    v.of.put(set, 0);
                }
                return v;
            }
            default: throw new IllegalStateException(word);
        }
    }

    private static Val dual(Val k) {
        Val v = new Val(k.n, k.n - k.r);
        k.of.forEach((set, value) -> v.of.put((1 << k.n) - 1 - set, value));
        return v;
    }

    private static Val cut(Val k) {
        Val v = new Val(k.n, k.r - 1);
        for (int set = 0; set < 1 << k.n; set++) {
            for (int e = 0; e < k.n; e++) {
                if ((set >> e & 1) == 0 && k.of.containsKey(set + (1 << e))) {
                    v.of.merge(set, k.of.get(set + (1 << e)), Math::max);
                }
            }
        }
        return v;
    }

    private static int sum(Val v, int base, int[] prices) {
        int sum = v.of.get(base);
        for (int e : v.elements(base)) {
            sum += prices[e];
        }
        return sum;
    }

    private static TreeSet<Integer> greatestOnes(Val v, int[] prices) {
        int most = NO_VALUE;
        for (int b : v.of.keySet()) {
            most = Math.max(most, sum(v, b, prices));
        }
        TreeSet<Integer> all = new TreeSet<>();
        for (int b : v.of.keySet()) {
            if (sum(v, b, prices) == most) {
                all.add(b);
            }
        }
        return all;
    }

    private Val at(int s) {
        return s < 0 || s > 3 ? null : shelves[s];
    }

    int price(int element, int v) {
        if (element < 0 || element > 7 || v < -1000 || v > 1000) {
            return NO_VALUE;
        }
        int was = prices[element];
        prices[element] = v;
        return was;
    }

    private static List<int[]> faults(Val v) {
        List<int[]> all = new ArrayList<>();
        for (int a : v.of.keySet()) {
            for (int b : v.of.keySet()) {
                for (int i : v.elements(a & ~b)) {
                    if (partner(v, a, b, i) < 0) {
                        all.add(new int[] {a, b, i});
                    }
                }
            }
        }
        return all;
    }

    private static int partner(Val v, int a, int b, int i) {
        for (int j : v.elements(b & ~a)) {
            Integer one = v.of.get(a - (1 << i) + (1 << j));
            Integer two = v.of.get(b - (1 << j) + (1 << i));
            if (one != null && two != null && one + two >= v.of.get(a) + v.of.get(b)) {
                return j;
            }
        }
        return -2;
    }

    private static Val flat(Val v, Iterable<Integer> bases) {
        Val w = new Val(v.n, v.r);
        for (int b : bases) {
            w.of.put(b, 0);
        }
        return w;
    }

    int shelf(int s, int what) {
        Val v = at(s);
        if (v == null || what < 0 || what > 12) {
            return NO_VALUE;
        }
        int all = (1 << v.n) - 1;
        TreeSet<Integer> most = greatestOnes(v, new int[8]);
        switch (what) {
            case 0: return v.n;
            case 1: return v.r;
            case 2: return v.of.size();
            case 3: return v.of.get(most.first());
            case 4: return most.first();
            case 5: {
                int some = 0;
                for (int b : v.of.keySet()) {
                    some |= b;
                }
                return all ^ some;
            }
            case 6: {
                int each = all;
                for (int b : v.of.keySet()) {
                    each &= b;
                }
                return each;
            }
            case 7: return faults(v).isEmpty() ? 1 : 0;
            case 8: return faults(flat(v, v.of.keySet())).isEmpty() ? 1 : 0;
            case 9: {
                int found = 0;
                for (int t = 0; t <= all; t++) {
                    found += v.free(t) ? 1 : 0;
                }
                return found;
            }
            case 10: return v.flats().size();
            case 11: return v.circuits().size();
            default: return faults(v).size();
        }
    }

    int value(int s, int set) {
        Val v = at(s);
        return v == null ? NO_VALUE : v.of.getOrDefault(set, NO_VALUE);
    }

    int base(int s, int k) {
        Val v = at(s);
        return v == null || k < 0 ? NONE : kth(v.of.keySet(), k);
    }

    private static int kth(Iterable<Integer> all, int k) {
        int left = k;
        for (int one : all) {
            if (left-- == 0) {
                return one;
            }
        }
        return -4;
    }

    int fault(int s, int k, int what) {
        Val v = at(s);
        if (v == null || k < 0 || what < 0 || what > 2) {
            return NONE;
        }
        List<int[]> all = faults(v);
        return k < all.size() ? all.get(k)[what] : -4;
    }

    int exchange(int s, int a, int b, int i) {
        Val v = at(s);
        if (v == null || !v.of.containsKey(a) || !v.of.containsKey(b) || !v.elements(a & ~b).contains(i)) {
            return NONE;
        }
        return partner(v, a, b, i);
    }

    private static boolean isSet(Val v, int set) {
        return set >= 0 && set < 1 << v.n;
    }

    int rank(int s, int set) {
        Val v = at(s);
        return v == null || !isSet(v, set) ? NONE : v.rank(set);
    }

    int closure(int s, int set) {
        Val v = at(s);
        return v == null || !isSet(v, set) ? NONE : v.closure(set);
    }

    int circuit(int s, int k) {
        Val v = at(s);
        return v == null || k < 0 ? NONE : kth(v.circuits(), k);
    }

    /** All bases of the greedy way, the first and the last too. */
    private static List<Integer> way(Val v, int from, int[] prices) {
        List<Integer> way = new ArrayList<>();
        way.add(from);
        while (true) {
            int here = way.get(way.size() - 1);
            int best = here;
            for (int b : v.of.keySet()) {
                if (Integer.bitCount(b ^ here) == 2 && sum(v, b, prices) > sum(v, best, prices)) {
                    best = b;
                }
            }
            if (best == here) {
                return way;
            }
            way.add(best);
        }
    }

    private static int end(Val v, int from, int[] prices) {
        List<Integer> way = way(v, from, prices);
        return way.get(way.size() - 1);
    }

    int greedy(int s, int from, int what) {
        Val v = at(s);
        if (v == null || !v.of.containsKey(from) || what < 0 || what > 3) {
            return NO_VALUE;
        }
        List<Integer> way = way(v, from, prices);
        int last = way.get(way.size() - 1);
        switch (what) {
            case 0: return last;
            case 1: return sum(v, last, prices);
            case 2: return way.size() - 1;
            default: return greatestOnes(v, prices).contains(last) ? 1 : 0;
        }
    }

    int arrive(int s) {
        Val v = at(s);
        if (v == null) {
            return NONE;
        }
        TreeSet<Integer> most = greatestOnes(v, prices);
        int found = 0;
        for (int b : v.of.keySet()) {
            found += most.contains(end(v, b, prices)) ? 1 : 0;
        }
        return found;
    }

    int initial(int s, int what) {
        Val v = at(s);
        if (v == null || what < 0 || what > 2 && what < 10) {
            return NO_VALUE;
        }
        TreeSet<Integer> most = greatestOnes(v, prices);
        switch (what) {
            case 0: return most.size();
            case 1: return sum(v, most.first(), prices);
            case 2: return faults(flat(v, most)).isEmpty() ? 1 : 0;
            default: return kth(most, what - 10);
        }
    }

    /** Sets at which numbers (by element) fail to lie in the space. */
    private static List<Integer> fails(Val v, Map<Integer, Integer> numbers) {
        List<Integer> all = new ArrayList<>();
        for (int set = 0; set < 1 << v.n; set++) {
            if (Integer.bitCount(set) != v.r + 1) {
                continue;
            }
            List<Integer> sums = new ArrayList<>();
            for (int e : v.elements(set)) {
                if (numbers.containsKey(e) && v.of.containsKey(set - (1 << e))) {
                    sums.add(v.of.get(set - (1 << e)) + numbers.get(e));
                }
            }
            sums.sort(null);
            int k = sums.size();
            if (k == 1 || k > 1 && !sums.get(k - 1).equals(sums.get(k - 2))) {
                all.add(set);
            }
        }
        return all;
    }

    private Map<Integer, Integer> priceMap(Val v) {
        Map<Integer, Integer> map = new HashMap<>();
        for (int e = 0; e < v.n; e++) {
            map.put(e, prices[e]);
        }
        return map;
    }

    int space(int s) {
        Val v = at(s);
        return v == null ? NONE : fails(v, priceMap(v)).isEmpty() ? 1 : 0;
    }

    int failing(int s, int k) {
        Val v = at(s);
        if (v == null || k < -1) {
            return NONE;
        }
        List<Integer> all = fails(v, priceMap(v));
        return k == -1 ? all.size() : kth(all, k);
    }

    int spanned(int s, int what) {
        Val v = at(s);
        if (v == null || what < 0 || what > 1) {
            return NONE;
        }
        int many = 0;
        int inSpace = 0;
        for (int set = 0; set < 1 << v.n; set++) {
            if (Integer.bitCount(set) != v.r - 1) {
                continue;
            }
            Map<Integer, Integer> numbers = new HashMap<>();
            for (int b : v.of.keySet()) {
                if ((set & ~b) == 0) {
                    numbers.put(Integer.numberOfTrailingZeros(b - set), v.of.get(b));
                }
            }
            if (!numbers.isEmpty()) {
                many++;
                inSpace += fails(v, numbers).isEmpty() ? 1 : 0;
            }
        }
        return what == 0 ? many : inSpace;
    }

    private static boolean alike(Val v, Val w) {
        return v != null && w != null && v.n == w.n && v.r == w.r;
    }

    private static TreeMap<Integer, Integer> both(Val v, Val w) {
        TreeMap<Integer, Integer> all = new TreeMap<>();
        v.of.forEach((set, value) -> {
            if (w.of.containsKey(set)) {
                all.put(set, value + w.of.get(set));
            }
        });
        return all;
    }

    private static int first(TreeMap<Integer, Integer> all) {
        int best = all.firstKey();
        for (int set : all.keySet()) {
            if (all.get(set) > all.get(best)) {
                best = set;
            }
        }
        return best;
    }

    int both(int s, int t, int what) {
        Val v = at(s);
        Val w = at(t);
        if (!alike(v, w) || what < 0 || what > 3) {
            return NO_VALUE;
        }
        TreeMap<Integer, Integer> all = both(v, w);
        switch (what) {
            case 0: return all.size();
            case 1: return all.isEmpty() ? -2 : first(all);
            case 2: return all.isEmpty() ? NO_VALUE : all.get(first(all));
            default: return potentials(v, w) == null ? 0 : 1;
        }
    }

    /** By all shortest ways at once; null if there are none. */
    private static long[] potentials(Val v, Val w) {
        TreeMap<Integer, Integer> all = both(v, w);
        if (all.isEmpty()) {
            return null;
        }
        int c = first(all);
        long far = Long.MAX_VALUE / 4;
        long[][] d = new long[v.n][v.n];
        for (int i = 0; i < v.n; i++) {
            Arrays.fill(d[i], far);
            d[i][i] = 0;
        }
        for (int i : v.elements(c)) {
            for (int j : v.elements((1 << v.n) - 1 - c)) {
                int other = c - (1 << i) + (1 << j);
                if (v.of.containsKey(other)) {
                    d[i][j] = v.of.get(c) - v.of.get(other);
                }
                if (w.of.containsKey(other)) {
                    d[j][i] = w.of.get(c) - w.of.get(other);
                }
            }
        }
        for (int k = 0; k < v.n; k++) {
            for (int i = 0; i < v.n; i++) {
                for (int j = 0; j < v.n; j++) {
                    if (d[i][k] < far && d[k][j] < far) {
                        d[i][j] = Math.min(d[i][j], d[i][k] + d[k][j]);
                    }
                }
            }
        }
        long[] p = new long[v.n];
        for (int j = 0; j < v.n; j++) {
            if (d[j][j] < 0) {
                return null;
            }
            for (int i = 0; i < v.n; i++) {
                p[j] = Math.min(p[j], d[i][j]);
            }
        }
        return p;
    }

    int potential(int s, int t, int element) {
        Val v = at(s);
        Val w = at(t);
        if (!alike(v, w) || element < 0 || element >= v.n) {
            return NO_VALUE;
        }
        long[] p = potentials(v, w);
        return p == null ? NO_VALUE : (int) p[element];
    }

    int together(int s, int what) {
        Val v = at(s);
        if (v == null || what < 0 || what > 1) {
            return NONE;
        }
        if (what == 1) {
            return pack(v, 0, 0);
        }
        TreeSet<Integer> reached = new TreeSet<>();
        reached.add(0);
        for (int k = 0; k <= 8; k++) {
            if (reached.contains((1 << v.n) - 1)) {
                return k;
            }
            TreeSet<Integer> more = new TreeSet<>(reached);
            for (int a : reached) {
                for (int set = 0; set < 1 << v.n; set++) {
                    if (v.free(set)) {
                        more.add(a | set);
                    }
                }
            }
            reached = more;
        }
        return -2;
    }

    private static int pack(Val v, int used, int above) {
        int most = 0;
        for (int b : v.of.keySet()) {
            if (b > above && (b & used) == 0) {
                most = Math.max(most, 1 + pack(v, used | b, b));
            }
        }
        return most;
    }

    int sized(int s, int k) {
        Val v = at(s);
        if (v == null || k < 0 || k > v.n) {
            return NONE;
        }
        int found = 0;
        for (int set = 0; set < 1 << v.n; set++) {
            found += Integer.bitCount(set) == k && v.free(set) ? 1 : 0;
        }
        return found;
    }

    long tutte(int s, int a, int b) {
        Val v = at(s);
        if (v == null || a < -3 || a > 4 || b < -3 || b > 4) {
            return NO_VALUE;
        }
        long sum = 0;
        for (int set = 0; set < 1 << v.n; set++) {
            sum += Math.round(Math.pow(a - 1, v.r - v.rank(set)))
                * Math.round(Math.pow(b - 1, Integer.bitCount(set) - v.rank(set)));
        }
        return sum;
    }

    long share(int s, int element, int what) {
        Val v = at(s);
        if (v == null || element < 0 || element >= v.n || what < 0 || what > 1) {
            return NO_VALUE;
        }
        long[] found = new long[2];
        shareOrders(v, element, 0, found);
        for (long d = found[1]; d > 0; d--) {
            if (found[0] % d == 0 && found[1] % d == 0) {
                return found[what] / d;
            }
        }
        throw new IllegalStateException();
    }

    /** All orders, one element at a time. */
    private static void shareOrders(Val v, int element, int ahead, long[] found) {
        int left = (1 << v.n) - 1 - ahead;
        if (left == 0) {
            found[1]++;
            return;
        }
        for (int e : v.elements(left)) {
            if (e == element) {
                int rest = Integer.bitCount(left) - 1;
                long orders = 1;
                for (int k = 2; k <= rest; k++) {
                    orders *= k;
                }
                found[0] += orders * (v.rank(ahead | 1 << e) - v.rank(ahead));
                found[1] += orders;
            } else {
                shareOrders(v, element, ahead | 1 << e, found);
            }
        }
    }

    int component(int s, int element) {
        Val v = at(s);
        if (v == null || element < 0 || element >= v.n) {
            return NONE;
        }
        List<Integer> circuits = v.circuits();
        TreeSet<Integer> found = new TreeSet<>();
        ArrayDeque<Integer> open = new ArrayDeque<>();
        open.add(element);
        while (!open.isEmpty()) {
            int e = open.poll();
            if (found.add(e)) {
                for (int c : circuits) {
                    if ((c >> e & 1) == 1) {
                        open.addAll(v.elements(c));
                    }
                }
            }
        }
        return found.first();
    }

    int quotient(int s, int t) {
        Val v = at(s);
        Val w = at(t);
        return v == null || w == null || v.n != w.n ? NONE : v.flats().containsAll(w.flats()) ? 1 : 0;
    }

    int gap(int s, int element, int what) {
        Val v = at(s);
        if (v == null || element < 0 || element >= v.n || what < 0 || what > 1) {
            return NO_VALUE;
        }
        int most = NO_VALUE;
        for (int b : v.of.keySet()) {
            if ((b >> element & 1) == 1 - what) {
                most = Math.max(most, sum(v, b, prices));
            }
        }
        return most;
    }

    int tips(int s, int element) {
        int with = gap(s, element, 0);
        int without = gap(s, element, 1);
        return with == NO_VALUE || without == NO_VALUE ? NO_VALUE : without - (with - prices[element]);
    }

    /** Fewest steps between all bases whose sum is no less than told; 1000: none. */
    private static int[][] steps(Val v, int[] prices, int least) {
        List<Integer> b = new ArrayList<>(v.of.keySet());
        int[][] d = new int[b.size()][b.size()];
        for (int i = 0; i < b.size(); i++) {
            for (int j = 0; j < b.size(); j++) {
                boolean beside = Integer.bitCount(b.get(i) ^ b.get(j)) <= 2;
                boolean both = sum(v, b.get(i), prices) >= least && sum(v, b.get(j), prices) >= least;
                d[i][j] = !beside || !both ? 1000 : i == j ? 0 : 1;
            }
        }
        for (int k = 0; k < b.size(); k++) {
            for (int i = 0; i < b.size(); i++) {
                for (int j = 0; j < b.size(); j++) {
                    d[i][j] = Math.min(d[i][j], d[i][k] + d[k][j]);
                }
            }
        }
        return d;
    }

    int stairs(int s, int from, int to, int what) {
        Val v = at(s);
        if (v == null || !v.of.containsKey(from) || !v.of.containsKey(to) || what < 0 || what > 1) {
            return NO_VALUE;
        }
        List<Integer> b = new ArrayList<>(v.of.keySet());
        int i = b.indexOf(from);
        int j = b.indexOf(to);
        if (what == 0) {
            int d = steps(v, prices, NO_VALUE)[i][j];
            return d >= 1000 ? -2 : d;
        }
        TreeSet<Integer> sums = new TreeSet<>();
        for (int base : b) {
            sums.add(sum(v, base, prices));
        }
        for (int least : sums.descendingSet()) {
            if (steps(v, prices, least)[i][j] < 1000) {
                return least;
            }
        }
        return NO_VALUE;
    }

    int told(int s, int i) {
        Val v = at(s);
        if (v == null || i < -1) {
            return NONE;
        }
        StringBuilder text = new StringBuilder("told " + s + " " + v.n + " " + v.r);
        v.of.forEach((set, value) -> text.append(" ").append(set).append(" ").append(value));
        return i == -1 ? text.length() : i < text.length() ? text.charAt(i) : -4;
    }

    int onto(int s, int t, int what) {
        Val v = at(s);
        Val w = at(t);
        if (!alike(v, w) || what < 0 || what > v.n) {
            return NONE;
        }
        List<int[]> found = new ArrayList<>();
        rows(v, w, new int[v.n], 0, found);
        return what == 0 ? found.size() : found.isEmpty() ? -2 : found.get(0)[what - 1];
    }

    private static void rows(Val v, Val w, int[] row, int k, List<int[]> found) {
        if (k == v.n) {
            for (Map.Entry<Integer, Integer> one : v.of.entrySet()) {
                int image = 0;
                for (int e : v.elements(one.getKey())) {
                    image |= 1 << row[e];
                }
                if (!one.getValue().equals(w.of.get(image))) {
                    return;
                }
            }
            if (v.of.size() == w.of.size()) {
                found.add(row.clone());
            }
            return;
        }
        for (int e = 0; e < v.n; e++) {
            boolean used = false;
            for (int i = 0; i < k; i++) {
                used |= row[i] == e;
            }
            if (!used) {
                row[k] = e;
                rows(v, w, row, k + 1, found);
            }
        }
    }

    int binary(int s) {
        Val v = at(s);
        if (v == null) {
            return NONE;
        }
        for (int set = 0; set < 1 << v.n; set++) {
            for (int a = 0; a < v.n; a++) {
                for (int b = a + 1; b < v.n; b++) {
                    for (int c = b + 1; c < v.n; c++) {
                        for (int d = c + 1; d < v.n; d++) {
                            if (four(v, set, 1 << a, 1 << b, 1 << c, 1 << d)) {
                                return 0;
                            }
                        }
                    }
                }
            }
        }
        return 1;
    }

    private static boolean four(Val v, int set, int a, int b, int c, int d) {
        if ((set & (a | b | c | d)) != 0) {
            return false;
        }
        for (int more : new int[] {a | b | c | d, a | b, a | c, a | d, b | c, b | d, c | d}) {
            if (v.rank(set | more) - v.rank(set) != 2) {
                return false;
            }
        }
        return true;
    }

    int shared(int s, int t, int k, int what) {
        Val v = at(s);
        Val w = at(t);
        if (v == null || w == null || v.n != w.n || k < 0 || k > v.n || what < 0 || what > 2) {
            return NO_VALUE;
        }
        TreeMap<Integer, Integer> all = new TreeMap<>();
        for (int set = 0; set < 1 << v.n; set++) {
            if (Integer.bitCount(set) == k && v.free(set) && w.free(set)) {
                int sum = 0;
                for (int e : v.elements(set)) {
                    sum += prices[e];
                }
                all.put(set, sum);
            }
        }
        switch (what) {
            case 0: return all.size();
            case 1: return all.isEmpty() ? NO_VALUE : all.get(first(all));
            default: return all.isEmpty() ? -2 : first(all);
        }
    }

    int game(int s, int set) {
        Val v = at(s);
        return v == null || !isSet(v, set) || !v.free(set) ? NONE : wins(v, set);
    }

    private static int wins(Val v, int set) {
        for (int e = 0; e < v.n; e++) {
            if ((set >> e & 1) == 0 && v.free(set | 1 << e) && wins(v, set | 1 << e) == 0) {
                return e + 1;
            }
        }
        return 0;
    }

    int far(int s, int t) {
        Val v = at(s);
        Val w = at(t);
        if (!alike(v, w)) {
            return NONE;
        }
        TreeSet<Integer> more = new TreeSet<>();
        for (int b : both(v, w).keySet()) {
            more.add(v.of.get(b) - w.of.get(b));
        }
        return more.isEmpty() ? -2 : more.last() - more.first();
    }

    int beside(int s, int what) {
        Val v = at(s);
        if (v == null || what < 0 || what > 3) {
            return NONE;
        }
        int[][] d = steps(v, prices, NO_VALUE);
        List<Integer> b = new ArrayList<>(v.of.keySet());
        int pairs = 0;
        int most = 0;
        int best = 0;
        int bestPairs = -1;
        for (int i = 0; i < b.size(); i++) {
            int here = 0;
            for (int j = 0; j < b.size(); j++) {
                most = Math.max(most, d[i][j]);
                here += d[i][j] == 1 ? 1 : 0;
            }
            pairs += here;
            if (here > bestPairs) {
                bestPairs = here;
                best = b.get(i);
            }
        }
        switch (what) {
            case 0: return pairs / 2;
            case 1: return most >= 1000 ? -2 : most;
            case 2: return best;
            default: return bestPairs;
        }
    }

    int past(int k, int what) {
        return k < 0 || k >= past.size() || what < 0 || what > 3 ? NONE : past.get(k)[what];
    }

    private static int anew(int x) {
        return (int) ((25173L * x + 13849) % 65536);
    }

    int walk(int s, int n, int what) {
        Val v = at(s);
        if (v == null || n < 1 || n > 1000 || what < 0 || what > 1) {
            return NONE;
        }
        int aside = x;
        int here = v.of.firstKey();
        int went = 0;
        for (int k = 0; k < n; k++) {
            aside = anew(aside);
            int i = v.elements(here).get(aside % v.r);
            aside = anew(aside);
            int j = v.elements((1 << v.n) - 1 - here).get(aside % (v.n - v.r));
            int to = here - (1 << i) + (1 << j);
            if (v.of.containsKey(to)) {
                here = to;
                went++;
            }
        }
        return what == 0 ? here : went;
    }

    int drawn(int s, int n) {
        Val v = at(s);
        if (v == null || n < 1 || n > 60) {
            return NONE;
        }
        int aside = x;
        int found = 0;
        for (int k = 0; k < n; k++) {
            int[] draws = new int[8];
            for (int e = 0; e < 8; e++) {
                aside = anew(aside);
                draws[e] = aside % 21 - 10;
            }
            found += greatestOnes(v, draws).contains(end(v, v.of.firstKey(), draws)) ? 1 : 0;
        }
        return found;
    }

    boolean seed(int seed) {
        if (seed < 0 || seed > 65535) {
            return false;
        }
        x = seed;
        return true;
    }

    int count(int what) {
        switch (what) {
            case 0: return tape.size();
            case 1: return x;
            case 2: return shelves[0].of.size() + shelves[1].of.size() + shelves[2].of.size() + shelves[3].of.size();
            default: return NONE;
        }
    }

    int keep() {
        keptShelves = shelves.clone();
        keptPrices = prices.clone();
        keptX = x;
        keptPast = new LinkedList<>(past);
        return 0;
    }

    boolean undo() {
        if (keptShelves == null) {
            return false;
        }
        shelves = keptShelves.clone();
        prices = keptPrices.clone();
        x = keptX;
        past = new LinkedList<>(keptPast);
        return true;
    }

    int check(int n) {
        if (n < 0 || n > 70 || n > tape.size()) {
            return -2;
        }
        List<Integer> told = new ArrayList<>(tape.subList(0, n));
        tape.clear();
        List<Integer> bases = new ArrayList<>(shelves[0].of.keySet());
        for (int k = 0; k < n; k++) {
            if (k >= bases.size() || !bases.get(k).equals(told.get(k))) {
                return k;
            }
        }
        return NONE;
    }
}
