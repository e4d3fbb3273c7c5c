import java.util.ArrayList;
import java.util.List;
import java.util.Random;

/**
 * What is known of matroids and valuations must hold for what the desk answers, however the document was read: on shelves
 * by clauses that keep THE LAW, and on told ones of which nothing is asked, both by draws (fixed ones).
 */
public final class TheoremTest {
    private static final int NO_VALUE = -2147483648;
    private static final int MOST_CALLS = 512;
    private static final String[] KEEPING = {"dual", "shift", "cut", "raise", "initial", "without", "by", "plus", "join"};

    private static int wrong = 0;
    private static long asked = 0;

    private final Random draw;
    private final List<String> texts = new ArrayList<>();
    private final int[] prices = new int[8];
    private PricedBases desk = new PricedBases();
    private int calls = 0;

    private TheoremTest(long seed) {
        draw = new Random(seed);
    }

    public static void main(String[] args) {
        int runs = args.length > 0 ? Integer.parseInt(args[0]) : 300;
        int from = args.length > 1 ? Integer.parseInt(args[1]) : 0;
        for (int run = from; run < from + runs && wrong < 10; run++) {
            new TheoremTest(run).run(run % 4 != 3);
        }
        System.out.println(asked + " questions, " + wrong + " wrong");
        if (wrong != 0) {
            System.exit(1);
        }
    }

    private void holds(String what, boolean is) {
        asked++;
        if (!is) {
            wrong++;
            System.out.println(what + " does not hold behind " + texts);
        }
    }

    /** A desk is used for no more calls than the document lets; then another one is told the same. */
    private PricedBases desk() {
        if (calls >= MOST_CALLS) {
            begin();
        }
        calls++;
        return desk;
    }

    private void begin() {
        desk = new PricedBases();
        calls = 0;
        for (String text : texts) {
            tell(text);
        }
    }

    private int tell(String text) {
        calls += text.length() / 20 + 2;
        return Texts.orders(desk, text);
    }

    private void orders(String text) {
        if (text.length() <= 200) {
            texts.add(text);
            begin();
        }
    }

    private void run(boolean lawful) {
        for (int s = 0; s < 4; s++) {
            orders(lawful ? anew(s) : told(s));
        }
        for (int k = draw.nextInt(9); k > 0; k--) {
            drawPrices();
            String word = KEEPING[draw.nextInt(KEEPING.length)];
            boolean third = word.equals("plus") || word.equals("join");
            boolean element = word.equals("without") || word.equals("by");
            orders(word + " " + draw.nextInt(4) + " " + draw.nextInt(4)
                + (third ? " " + draw.nextInt(4) : element ? " " + draw.nextInt(8) : ""));
        }
        drawPrices();
        for (int s = 0; s < 4; s++) {
            if (lawful) {
                lawful(s);
                aMatroid(s);
                stairsByLaw(s);
            }
            law(s);
            shapes(s);
            games(s);
            stairs(s);
            gaps(s);
            for (int t = 0; t < 4; t++) {
                pair(s, t, lawful);
            }
        }
        turnedOver(draw.nextInt(4));
    }

    private String anew(int s) {
        int n = 2 + draw.nextInt(6);
        int r = 1 + draw.nextInt(n - 1);
        int kind = draw.nextInt(4);
        if (kind == 0) {
            return "uniform " + s + " " + n + " " + r;
        }
        StringBuilder text = new StringBuilder();
        if (kind == 1) {
            int v = Math.min(6, r + 1);
            text.append("graph ").append(s).append(' ').append(n).append(' ').append(v);
            for (int e = 0; e < n; e++) {
                int a = draw.nextInt(v);
                text.append(' ').append(a).append(' ').append((a + 1 + draw.nextInt(v - 1)) % v);
            }
            return text.toString();
        }
        text.append("match ").append(s).append(' ').append(n).append(' ').append(r);
        for (int k = 0; k < n * r; k++) {
            text.append(' ').append(draw.nextInt(9) - 4);
        }
        return text.toString();
    }

    private String told(int s) {
        int n = 2 + draw.nextInt(5);
        int r = 1 + draw.nextInt(n - 1);
        StringBuilder text = new StringBuilder("told ").append(s).append(' ').append(n).append(' ').append(r);
        int[] sets = java.util.stream.IntStream.range(0, 1 << n).filter(set -> Integer.bitCount(set) == r).toArray();
        int sure = draw.nextInt(sets.length);
        for (int k = 0; k < sets.length; k++) {
            if (k == sure || draw.nextInt(3) != 0) {
                text.append(' ').append(sets[k]).append(' ').append(draw.nextInt(4) / 2);
            }
        }
        return text.toString();
    }

    private void drawPrices() {
        StringBuilder text = new StringBuilder();
        for (int e = 0; e < 8; e++) {
            prices[e] = draw.nextInt(9) - 4;
            text.append(e > 0 ? ";" : "").append("price ").append(e).append(' ').append(prices[e]);
        }
        orders(text.toString());
    }

    private int sum(int s, int base) {
        int sum = desk().value(s, base);
        for (int e = 0; e < 8; e++) {
            sum += (base >> e & 1) * prices[e];
        }
        return sum;
    }

    private int[] bases(int s) {
        int[] bases = new int[desk().shelf(s, 2)];
        for (int k = 0; k < bases.length; k++) {
            bases[k] = desk().base(s, k);
        }
        return bases;
    }

    private int[] some(int[] of, int most) {
        int[] picked = new int[Math.min(most, of.length)];
        for (int k = 0; k < picked.length; k++) {
            picked[k] = of.length <= most ? of[k] : of[draw.nextInt(of.length)];
        }
        return picked;
    }

    /** What a valuation that keeps THE LAW has. */
    private void lawful(int s) {
        holds("promise 3: clauses keep THE LAW", desk().shelf(s, 7) == 1);
        holds("promise 5: BASES of a valuation are a MATROID's", desk().shelf(s, 8) == 1);
        holds("promise 14: GREEDY comes to INITIAL from each BASE", desk().arrive(s) == desk().shelf(s, 2));
        holds("promise 15: INITIAL ones are a MATROID's", desk().initial(s, 2) == 1);
        holds("promise 39: GREEDY comes to the greatest SUM by any PRICES", desk().drawn(s, 5) == 5);
        for (int from : some(bases(s), 6)) {
            holds("promise 13: GREEDY ends at a greatest SUM", desk().greedy(s, from, 3) == 1);
            holds("promise 13: its SUM is that of INITIAL", desk().greedy(s, from, 1) == desk().initial(s, 1));
        }
    }

    /** COVER and PACK of a matroid by the ranks of all sets. */
    private void aMatroid(int s) {
        int n = desk().shelf(s, 0);
        int r = desk().shelf(s, 1);
        int cover = 1;
        int pack = n;
        for (int set = 1; set < 1 << n; set++) {
            int rank = desk().rank(s, set);
            int size = Integer.bitCount(set);
            cover = rank == 0 || cover < 0 ? -2 : Math.max(cover, (size + rank - 1) / rank);
            pack = rank == r ? pack : Math.min(pack, (n - size) / (r - rank));
            holds("promise 11: a CLOSURE is a FLAT", desk().closure(s, desk().closure(s, set)) == desk().closure(s, set));
        }
        holds("promise 21: COVER", desk().together(s, 0) == cover);
        holds("promise 21: PACK", desk().together(s, 1) == Math.min(pack, n / r));
    }

    private void stairsByLaw(int s) {
        int[] bases = bases(s);
        for (int from : some(bases, 4)) {
            for (int to : some(bases, 8)) {
                holds("promise 29: as many steps as ELEMENTS unlike",
                    desk().stairs(s, from, to, 0) == Integer.bitCount(from & ~to));
                holds("promise 29: on the best STAIRS no SUM is less than at an end",
                    desk().stairs(s, from, to, 1) == Math.min(sum(s, from), sum(s, to)));
            }
        }
    }

    /** THE LAW holds if and only if all BASES around SETS of r less 1 are IN SPACE, whatever the SETS. */
    private void law(int s) {
        int[] bases = bases(s);
        int faults = desk().shelf(s, 12);
        holds("promise 5: THE LAW holds if there are no FAULTS", desk().shelf(s, 7) == (faults == 0 ? 1 : 0));
        holds("promise 18: all are IN SPACE if THE LAW holds, and only then",
            (desk().spanned(s, 0) == desk().spanned(s, 1)) == (faults == 0));
        holds("promise 17: PRICES are IN SPACE if none is FAILING", desk().space(s) == (desk().failing(s, -1) == 0 ? 1 : 0));
        if (bases.length > 12) {
            return;
        }
        int met = 0;
        for (int a : bases) {
            for (int b : bases) {
                for (int i = 0; i < 8; i++) {
                    if (((a & ~b) >> i & 1) == 1 && desk().exchange(s, a, b, i) == -2) {
                        holds("promise 8: FAULTS are what no exchange does for", desk().fault(s, met, 0) == a
                            && desk().fault(s, met, 1) == b && desk().fault(s, met, 2) == i);
                        met++;
                    }
                }
            }
        }
        holds("promise 5: how many FAULTS", met == faults);
    }

    /** What the ranks of all sets say together; it holds for any sets of like size. */
    private void shapes(int s) {
        int n = desk().shelf(s, 0);
        int r = desk().shelf(s, 1);
        int free = 0;
        for (int k = 0; k <= n; k++) {
            free += desk().sized(s, k);
        }
        holds("promise 22: FREE SETS by how many ELEMENTS they have", free == desk().shelf(s, 9));
        holds("promise 22: BASES are the FREE SETS of r", desk().sized(s, r) == desk().shelf(s, 2));
        holds("promise 23: TUTTE at 1, 1", desk().tutte(s, 1, 1) == desk().shelf(s, 2));
        holds("promise 23: TUTTE at 2, 1", desk().tutte(s, 2, 1) == desk().shelf(s, 9));
        holds("promise 23: TUTTE at 2, 2", desk().tutte(s, 2, 2) == 1 << n);
        long all = 0;
        for (int e = 0; e < n; e++) {
            boolean loop = (desk().shelf(s, 5) >> e & 1) == 1;
            boolean bridge = (desk().shelf(s, 6) >> e & 1) == 1;
            long above = desk().share(s, e, 0);
            long below = desk().share(s, e, 1);
            all += 40320 * above / below;
            holds("promise 24: the SHARE of a LOOP is 0, of a BRIDGE 1", loop == (above == 0) && bridge == (above == below));
            holds("promise 25: a LOOP and a BRIDGE hang together with themselves",
                !loop && !bridge || desk().component(s, e) == e);
        }
        holds("promise 24: SHARES are r together", all == 40320L * r);
        holds("promise 26: a SHELF's FLATS are its own", desk().quotient(s, s) == 1);
        int circuits = desk().shelf(s, 11);
        for (int k = 0; k < circuits; k++) {
            int circuit = desk().circuit(s, k);
            holds("promise 10: a CIRCUIT has one ELEMENT more than its RANK",
                desk().rank(s, circuit) == Integer.bitCount(circuit) - 1);
        }
        holds("promise 12: as many CIRCUITS as told", desk().circuit(s, circuits) == -4);
    }

    /** Who is to take wins if he can leave a SET where the other has lost. */
    private void games(int s) {
        int n = desk().shelf(s, 0);
        for (int set = 0; set < 1 << n; set++) {
            if (desk().rank(s, set) == Integer.bitCount(set)) {
                int least = 0;
                for (int e = n - 1; e >= 0; e--) {
                    boolean out = (set >> e & 1) == 0;
                    least = out && desk().game(s, set | 1 << e) == 0 ? 1 + e : least;
                }
                holds("promise 34: who is to take wins by what the other loses", desk().game(s, set) == least);
            }
        }
    }

    private void stairs(int s) {
        int[] bases = some(bases(s), 7);
        int most = desk().beside(s, 1);
        for (int from : bases) {
            for (int to : bases) {
                int steps = desk().stairs(s, from, to, 0);
                holds("promise 29: STAIRS go both ways", steps == desk().stairs(s, to, from, 0)
                    && desk().stairs(s, from, to, 1) == desk().stairs(s, to, from, 1));
                holds("promise 36: the most steps", most < 0 || steps >= 0 && steps <= most);
                holds("promise 29: no steps to itself, one to one beside", steps == 0 == (from == to)
                    && steps == 1 == (Integer.bitCount(from ^ to) == 2));
                holds("promise 29: STAIRS are no better than their ends",
                    desk().stairs(s, from, to, 1) <= Math.min(sum(s, from), sum(s, to)));
            }
        }
    }

    private void gaps(int s) {
        int n = desk().shelf(s, 0);
        for (int e = 0; e < n; e++) {
            int with = desk().gap(s, e, 0);
            int without = desk().gap(s, e, 1);
            holds("promise 27: the greatest SUM is with an ELEMENT or without it",
                desk().initial(s, 1) == Math.max(with, without));
            int tips = desk().tips(s, e);
            holds("promise 28: a PRICE where there are both", (tips == NO_VALUE) == (with == NO_VALUE || without == NO_VALUE));
            if (tips >= -1000 && tips <= 1000) {
                calls += 4;
                int before = desk().price(e, tips);
                holds("promise 28: by that PRICE both are alike", desk.gap(s, e, 0) == desk.gap(s, e, 1));
                desk.price(e, before);
            }
        }
    }

    private void pair(int s, int t, boolean lawful) {
        int n = desk().shelf(s, 0);
        int r = desk().shelf(s, 1);
        if (n != desk().shelf(t, 0)) {
            return;
        }
        if (lawful) {
            sharedByRanks(s, t, n);
        }
        if (r != desk().shelf(t, 1)) {
            return;
        }
        holds("promise 19: BASES of both are FREE on both", desk().both(s, t, 0) == desk().shared(s, t, r, 0));
        holds("promise 35: far both ways", desk().far(s, t) == desk().far(t, s));
        if (desk().both(s, t, 0) > 0) {
            common(s, t, lawful);
        }
        if (n <= 7) {
            turnedAbout(s, t, n);
        }
    }

    /** The most ELEMENTS that a SET FREE on both has: the least rank of a SET here and of all others there. */
    private void sharedByRanks(int s, int t, int n) {
        int most = 0;
        int least = n;
        for (int k = 0; k <= n; k++) {
            most = desk().shared(s, t, k, 0) > 0 ? k : most;
        }
        for (int set = 0; set < 1 << n; set++) {
            least = Math.min(least, desk().rank(s, set) + desk().rank(t, (1 << n) - 1 - set));
        }
        holds("promise 33: the most ELEMENTS of SHARED SETS", most == least);
    }

    /** POTENTIALS prove THE COMMON: with them it is the best of each SHELF alone. */
    private void common(int s, int t, boolean lawful) {
        int common = desk().both(s, t, 1);
        boolean any = desk().both(s, t, 3) == 1;
        holds("promise 19: where THE LAW holds for both there are POTENTIALS", any || !lawful);
        holds("promise 19: VALUES together", desk().both(s, t, 2) == desk().value(s, common) + desk().value(t, common));
        if (!any) {
            return;
        }
        int n = desk().shelf(s, 0);
        int[] p = new int[n];
        int highest = NO_VALUE;
        for (int e = 0; e < n; e++) {
            p[e] = desk().potential(s, t, e);
            highest = Math.max(highest, p[e]);
        }
        holds("promise 20: one of the greatest numbers that are not above 0 is 0", highest == 0);
        for (int base : lawful ? some(bases(s), 20) : new int[0]) {
            holds("promise 20: on the first SHELF none is better with POTENTIALS",
                desk().value(s, base) + of(p, base) <= desk().value(s, common) + of(p, common));
        }
        for (int base : lawful ? some(bases(t), 20) : new int[0]) {
            holds("promise 20: on the second SHELF none is better without them",
                desk().value(t, base) - of(p, base) <= desk().value(t, common) - of(p, common));
        }
    }

    private static int of(int[] p, int set) {
        int sum = 0;
        for (int e = 0; e < p.length; e++) {
            sum += (set >> e & 1) * p[e];
        }
        return sum;
    }

    private void turnedAbout(int s, int t, int n) {
        int rows = desk().onto(s, t, 0);
        int own = desk().onto(s, s, 0);
        holds("promise 31: as many rows as onto itself, or none", rows == 0 || rows == own);
        holds("promise 31: as many rows back", rows == desk().onto(t, s, 0));
        int orders = 1;
        for (int k = 2; k <= n; k++) {
            orders *= k;
        }
        holds("promise 31: rows onto itself are a group", own >= 1 && orders % own == 0);
        holds("promise 31: the first onto itself is each ELEMENT's own", desk().onto(s, s, n) == n - 1);
        if (rows > 0) {
            int[] row = new int[n];
            for (int e = 0; e < n; e++) {
                row[e] = desk().onto(s, t, 1 + e);
            }
            for (int base : some(bases(s), 20)) {
                int image = 0;
                for (int e = 0; e < n; e++) {
                    image |= (base >> e & 1) << row[e];
                }
                holds("promise 31: the SET for a SET has its VALUE", desk().value(t, image) == desk().value(s, base));
            }
        }
    }

    /** What a SHELF and its dual have to do with one another. */
    private void turnedOver(int s) {
        int t = (s + 1) % 4;
        int u = (s + 2) % 4;
        orders("dual " + t + " " + s + ";dual " + u + " " + t);
        int n = desk().shelf(s, 0);
        for (int x = -3; x <= 4; x++) {
            for (int y = -3; y <= 4; y++) {
                holds("promise 23: TUTTE turned over", desk().tutte(s, x, y) == desk().tutte(t, y, x));
            }
        }
        holds("promise 5: LOOPS turned over are BRIDGES", desk().shelf(s, 5) == desk().shelf(t, 6)
            && desk().shelf(s, 6) == desk().shelf(t, 5));
        holds("promise 5: FAULTS turned over are as many", desk().shelf(s, 12) == desk().shelf(t, 12));
        for (int base : bases(s)) {
            holds("promise 3: dual of dual", desk().value(u, base) == desk().value(s, base));
        }
        holds("promise 36: pairs turned over", desk().beside(s, 0) == desk().beside(t, 0)
            && desk().beside(s, 1) == desk().beside(t, 1));
        if (desk().shelf(s, 8) == 1) {
            holds("promise 32: BINARY turned over", desk().binary(s) == desk().binary(t));
            for (int e = 0; e < n; e++) {
                holds("promise 25: COMPONENTS turned over", desk().component(s, e) == desk().component(t, e));
            }
            orders("cut " + t + " " + s);
            if (desk().shelf(t, 1) == desk().shelf(s, 1) - 1) {
                holds("promise 26: FLATS of a cut one are FLATS", desk().quotient(s, t) == 1);
            }
        }
    }
}
