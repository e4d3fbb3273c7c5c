/** Promises 4 to 44 at the bounds of their arguments: the last that is taken, the first that is not, on both sides. */
public final class BoundsArgumentTest extends Bounds {
    /** SHELF 0: two of four; SHELF 3: ELEMENT 0 in all BASES, 2 in none; SHELVES 1 and 2: as at first. */
    private static final String FOURS = "uniform 0 4 2;told 3 4 2 3 4 9 -6";
    private static final String UNLIKE = "told 0 4 2 3 7 12 7;told 3 4 2 5 7 10 7";
    private static final String EIGHT = "uniform 0 8 4;uniform 3 7 1";
    private static final int[] NO_ELEMENT_OF_FOUR = {4, -1, 7, 8, 32, 35, -32, SMALL, BIG};
    private static final int[] NO_SHELF = {4, -1, 5, 32, SMALL, BIG};

    public static void main(String[] args) {
        shelvesOfOne();
        shelvesOfTwo();
        elements();
        elementsOfTwoAndEight();
        sets();
        bases();
        prices();
        whats();
        whatsOfTwo();
        counted();
        numbers();
        unlike();
        noneFirst();
        end();
    }

    private static void ofShelf(String named, Call call, long ofFirst, long ofLast, long refusal) {
        bounds(named + " of SHELF", FOURS, call, at(0, ofFirst, 3, ofLast), refusal, NO_SHELF);
    }

    private static void shelvesOfOne() {
        ofShelf("promise 5: shelf", (x, s) -> x.shelf(s, 2), 6, 2, NO_VALUE);
        ofShelf("promise 6: value", (x, s) -> x.value(s, 3), 0, 4, NO_VALUE);
        ofShelf("promise 7: base", (x, s) -> x.base(s, 1), 5, 9, NONE);
        bounds("promise 8: fault of SHELF", UNLIKE, (x, s) -> x.fault(s, 0, 0), at(0, 3, 3, 5), NONE, NO_SHELF);
        bounds("promise 9: exchange of SHELF", "uniform 0 4 2;told 3 4 2 3 0 12 0 10 0 5 0",
            (x, s) -> x.exchange(s, 3, 12, 0), at(0, 2, 3, 3), NONE, NO_SHELF);
        ofShelf("promise 10: rank", (x, s) -> x.rank(s, 4), 1, 0, NONE);
        ofShelf("promise 11: closure", (x, s) -> x.closure(s, 0), 0, 4, NONE);
        ofShelf("promise 12: circuit", (x, s) -> x.circuit(s, 0), 7, 4, NONE);
        ofShelf("promise 13: greedy", (x, s) -> x.greedy(s, 3, 1), 0, 4, NO_VALUE);
        ofShelf("promise 14: arrive", PricedBases::arrive, 6, 2, NONE);
        ofShelf("promise 15: initial", (x, s) -> x.initial(s, 0), 6, 1, NO_VALUE);
        ofShelf("promise 16: space", PricedBases::space, 1, 0, NONE);
        ofShelf("promise 17: failing", (x, s) -> x.failing(s, -1), 0, 3, NONE);
        ofShelf("promise 18: spanned", (x, s) -> x.spanned(s, 0), 4, 3, NONE);
        ofShelf("promise 21: together", (x, s) -> x.together(s, 0), 2, -2, NONE);
        ofShelf("promise 22: sized", (x, s) -> x.sized(s, 1), 4, 3, NONE);
        ofShelf("promise 23: tutte", (x, s) -> x.tutte(s, 1, 1), 6, 2, NO_VALUE);
        ofShelf("promise 24: share", (x, s) -> x.share(s, 0, 1), 2, 1, NO_VALUE);
        ofShelf("promise 25: component", (x, s) -> x.component(s, 3), 0, 1, NONE);
        ofShelf("promise 27: gap", (x, s) -> x.gap(s, 3, 0), 0, -6, NO_VALUE);
        ofShelf("promise 28: tips", (x, s) -> x.tips(s, 3), 0, 10, NO_VALUE);
        ofShelf("promise 29: stairs", (x, s) -> x.stairs(s, 3, 9, 1), 0, -6, NO_VALUE);
        ofShelf("promise 30: told", (x, s) -> x.told(s, 5), '0', '3', NONE);
        ofShelf("promise 32: binary", PricedBases::binary, 0, 1, NONE);
        bounds("promise 34: game of SHELF", "uniform 0 4 2;told 3 4 2 9 0 10 0", (x, s) -> x.game(s, 1), at(0, 2, 3, 4), NONE, NO_SHELF);
        ofShelf("promise 36: beside", (x, s) -> x.beside(s, 0), 12, 1, NONE);
        ofShelf("promise 38: walk", (x, s) -> x.walk(s, 1, 0), 10, 3, NONE);
        bounds("promise 39: drawn of SHELF", "uniform 0 4 2;told 3 4 2 3 0 12 5", (x, s) -> x.drawn(s, 3), at(0, 3, 3, 2), NONE, NO_SHELF);
    }

    private static void ofTwo(String named, String text, Call first, Call second, long own, long other, long refusal) {
        bounds(named + " of first SHELF", text, first, at(0, own, 3, other), refusal, NO_SHELF);
        bounds(named + " of second SHELF", text, second, at(0, own, 3, other), refusal, NO_SHELF);
    }

    /** Each method of two SHELVES: with SHELF 0 as the other one, the answer for SHELF 0 itself and for SHELF 3. */
    private static void shelvesOfTwo() {
        ofTwo("promise 19: both", FOURS, (x, s) -> x.both(s, 0, 0), (x, s) -> x.both(0, s, 0), 6, 2, NO_VALUE);
        String sloped = "told 0 2 1 1 9 2 5;told 3 2 1 1 0 2 3";
        bounds("promise 20: potential of first SHELF", sloped, (x, s) -> x.potential(s, 0, 1), at(0, 0, 3, -3), NO_VALUE, NO_SHELF);
        bounds("promise 20: potential of second SHELF", sloped, (x, s) -> x.potential(0, s, 0), at(0, 0, 3, -3), NO_VALUE, NO_SHELF);
        bounds("promise 26: quotient of first SHELF", FOURS, (x, s) -> x.quotient(s, 0), at(0, 1, 3, 0), NONE, NO_SHELF);
        bounds("promise 26: quotient of second SHELF", FOURS + ";cut 3 0", (x, s) -> x.quotient(0, s), at(0, 1, 3, 1), NONE, NO_SHELF);
        ofTwo("promise 31: onto", FOURS, (x, s) -> x.onto(s, 0, 0), (x, s) -> x.onto(0, s, 0), 24, 0, NONE);
        ofTwo("promise 33: shared", FOURS, (x, s) -> x.shared(s, 0, 2, 0), (x, s) -> x.shared(0, s, 2, 0), 6, 2, NO_VALUE);
        ofTwo("promise 35: far", FOURS, (x, s) -> x.far(s, 0), (x, s) -> x.far(0, s), 0, 10, NONE);
    }

    private static void ofElement(String named, Call call, long answer, long refusal) {
        bounds(named + " of ELEMENT", FOURS, call, at(0, answer, 3, answer), refusal, NO_ELEMENT_OF_FOUR);
    }

    private static void elements() {
        bounds("promise 4: price of ELEMENT", "price 0 5;price 7 6", (x, e) -> x.price(e, 1), at(0, 5, 7, 6), NO_VALUE,
            8, -1, 9, 32, SMALL, BIG);
        bounds("promise 9: exchange by i", FOURS, (x, i) -> x.exchange(0, 9, 6, i), at(0, 1, 3, 1), NONE, NO_ELEMENT_OF_FOUR);
        bounds("promise 9: exchange by i of A that is not in B,", FOURS, (x, i) -> x.exchange(0, 3, 5, i), at(1, 2), NONE, 0, 2, 3);
        ofElement("promise 20: potential", (x, e) -> x.potential(0, 0, e), 0, NO_VALUE);
        ofElement("promise 24: share", (x, e) -> x.share(0, e, 1), 2, NO_VALUE);
        ofElement("promise 25: component", (x, e) -> x.component(0, e), 0, NONE);
        ofElement("promise 27: gap with, and", (x, e) -> x.gap(0, e, 0), 0, NO_VALUE);
        ofElement("promise 27: gap without, and", (x, e) -> x.gap(0, e, 1), 0, NO_VALUE);
        ofElement("promise 28: tips", (x, e) -> x.tips(0, e), 0, NO_VALUE);
    }

    private static void ofLastElement(String named, Call call, long answer, long refusal) {
        bounds(named + " of eight, ELEMENT", EIGHT, call, at(7, answer), refusal, 8, -1, 39);
    }

    private static void elementsOfTwoAndEight() {
        ofLastElement("promise 9: exchange", (x, i) -> x.exchange(0, 240, 15, i), 0, NONE);
        ofLastElement("promise 20: potential", (x, e) -> x.potential(0, 0, e), 0, NO_VALUE);
        ofLastElement("promise 24: share", (x, e) -> x.share(0, e, 1), 2, NO_VALUE);
        ofLastElement("promise 25: component", (x, e) -> x.component(0, e), 0, NONE);
        ofLastElement("promise 27: gap", (x, e) -> x.gap(0, e, 0), 0, NO_VALUE);
        ofLastElement("promise 28: tips", (x, e) -> x.tips(0, e), 0, NO_VALUE);
        bounds("promise 9: exchange of two, ELEMENT", "", (x, i) -> x.exchange(1, 2, 1, i), at(1, 0), NONE, 2);
        bounds("promise 20: potential of two, ELEMENT", "", (x, e) -> x.potential(1, 0, e), at(1, 0), NO_VALUE, 2);
        bounds("promise 24: share of two, ELEMENT", "", (x, e) -> x.share(1, e, 1), at(1, 2), NO_VALUE, 2);
        bounds("promise 25: component of two, ELEMENT", "", (x, e) -> x.component(1, e), at(1, 0), NONE, 2);
        bounds("promise 27: gap of two, ELEMENT", "", (x, e) -> x.gap(1, e, 0), at(1, 0), NO_VALUE, 2);
        bounds("promise 28: tips of two, ELEMENT", "", (x, e) -> x.tips(1, e), at(1, 0), NO_VALUE, 2);
        bounds("promise 24: share of seven, ELEMENT", EIGHT, (x, e) -> x.share(3, e, 1), at(6, 7), NO_VALUE, 7);
    }

    private static void ofSet(String named, Call[] ofTwoFourEight, long[] ofNone, long[] ofAll, long refusal) {
        int[] all = {3, 15, 255};
        for (int k = 0; k < 3; k++) {
            bounds(named + " of n " + (2 << k) + ", SET", EIGHT + ";uniform 2 4 2", ofTwoFourEight[k],
                at(0, ofNone[k], all[k], ofAll[k]), refusal, all[k] + 1, -1, SMALL, BIG);
        }
    }

    /** SHELF 1 has two ELEMENTS, SHELF 2 four, SHELF 0 eight. */
    private static void sets() {
        ofSet("promise 10: rank", new Call[] {(x, set) -> x.rank(1, set), (x, set) -> x.rank(2, set), (x, set) -> x.rank(0, set)},
            at(0, 0, 0), at(1, 2, 4), NONE);
        ofSet("promise 11: closure",
            new Call[] {(x, set) -> x.closure(1, set), (x, set) -> x.closure(2, set), (x, set) -> x.closure(0, set)},
            at(0, 0, 0), at(3, 15, 255), NONE);
        bounds("promise 6: value of two ELEMENTS, SET", "", (x, set) -> x.value(1, set), at(1, 0, 2, 0), NO_VALUE, 0, 3, 4, 5, -1, -2,
            258, SMALL, BIG);
        bounds("promise 6: value of eight ELEMENTS, SET", EIGHT, (x, set) -> x.value(0, set), at(15, 0, 240, 0), NO_VALUE,
            0, 14, 31, 255, 256, 271, -1, -16, SMALL, BIG);
        bounds("promise 34: game of two ELEMENTS, SET", "", (x, set) -> x.game(1, set), at(0, 1, 1, 0, 2, 0), NONE, 3, 4, -1, SMALL, BIG);
        bounds("promise 34: game of eight ELEMENTS, SET", EIGHT, (x, set) -> x.game(0, set), at(0, 0, 7, 4, 240, 0), NONE,
            31, 255, 256, -1, SMALL, BIG);
    }

    private static void bases() {
        int[] no = {0, 5, 7, 15, 16, 19, -1, SMALL, BIG};
        bounds("promise 9: exchange, A", UNLIKE, (x, a) -> x.exchange(0, a, 12, 0), at(3, -2), NONE, no);
        bounds("promise 9: exchange, B", UNLIKE, (x, b) -> x.exchange(0, 3, b, 0), at(12, -2), NONE, no);
        bounds("promise 13: greedy from", UNLIKE, (x, from) -> x.greedy(0, from, 0), at(3, 3, 12, 12), NO_VALUE, no);
        bounds("promise 29: stairs from", UNLIKE, (x, from) -> x.stairs(0, from, 12, 0), at(3, -2, 12, 0), NO_VALUE, no);
        bounds("promise 29: stairs to", UNLIKE, (x, to) -> x.stairs(0, 3, to, 0), at(3, 0, 12, -2), NO_VALUE, no);
        bounds("promise 29: least SUM of stairs from", UNLIKE, (x, from) -> x.stairs(0, from, 12, 1), at(12, 7), NO_VALUE, no);
        bounds("promise 29: least SUM of stairs to", UNLIKE, (x, to) -> x.stairs(0, 3, to, 1), at(3, 7), NO_VALUE, no);
        test("promise 9: exchange of a BASE with itself has no i", FOURS, x -> {
            for (int i = 0; i < 4; i++) {
                due(x.exchange(0, 3, 3, i), NONE);
            }
        });
        bounds("promise 13: greedy of eight from", EIGHT, (x, from) -> x.greedy(0, from, 0), at(15, 15, 240, 240), NO_VALUE, 256 + 15, 255);
    }

    private static void prices() {
        bounds("promise 4: price to", "price 2 -7", (x, v) -> x.price(2, v), at(1000, -7, -1000, -7, 0, -7), NO_VALUE, 1001, -1001, SMALL, BIG);
        test("promise 4: 1000 is the PRICE then", x -> {
            x.price(2, 1000);
            due(x.price(2, 0), 1000);
        });
        test("promise 4: -1000 is the PRICE then", x -> {
            x.price(2, -1000);
            due(x.price(2, 0), -1000);
        });
        test("promise 4: a refused PRICE leaves what it was", "price 2 -7", x -> {
            due(x.price(2, 1001), NO_VALUE);
            due(x.price(2, -1001), NO_VALUE);
            due(x.price(2, 0), -7);
        });
        test("promise 4: a PRICE of one ELEMENT is not another's", x -> {
            x.price(0, 5);
            x.price(7, 6);
            due(x.price(1, 0), 0);
            due(x.price(6, 0), 0);
            due(x.price(0, 0), 5);
            due(x.price(7, 0), 6);
        });
        test("promise 4: a PRICE of an ELEMENT that no SHELF has", x -> {
            due(x.price(7, 6), 0);
            due(x.shelf(0, 0), 2);
        });
    }

    private static void whats() {
        bounds("promise 5: shelf, what", FOURS, (x, what) -> x.shelf(0, what), at(0, 4, 1, 2, 2, 6, 3, 0, 4, 3, 5, 0, 6, 0, 7, 1, 8, 1, 9, 11,
            10, 6, 11, 4, 12, 0), NO_VALUE, 13, -1, SMALL, BIG);
        bounds("promise 8: fault, what", UNLIKE, (x, what) -> x.fault(0, 1, what), at(0, 3, 1, 12, 2, 1), NONE, 3, -1, SMALL, BIG);
        bounds("promise 13: greedy, what", FOURS + ";price 1 2", (x, what) -> x.greedy(0, 9, what), at(0, 3, 1, 2, 2, 1, 3, 1), NO_VALUE,
            4, -1, SMALL, BIG);
        bounds("promise 15: initial, what", FOURS + ";price 1 2", (x, what) -> x.initial(0, what), at(0, 3, 1, 2, 2, 1, 10, 3, 12, 10, 13, -4,
            BIG, -4), NO_VALUE, 3, 9, -1, -10, SMALL);
        bounds("promise 18: spanned, what", UNLIKE, (x, what) -> x.spanned(3, what), at(0, 4, 1, 0), NONE, 2, -1, SMALL, BIG);
        bounds("promise 21: together, what", FOURS, (x, what) -> x.together(0, what), at(0, 2, 1, 2), NONE, 2, -1, SMALL, BIG);
        bounds("promise 24: share, what", FOURS, (x, what) -> x.share(0, 0, what), at(0, 1, 1, 2), NO_VALUE, 2, -1, SMALL, BIG);
        bounds("promise 27: gap, what", FOURS, (x, what) -> x.gap(3, 1, what), at(0, 4, 1, -6), NO_VALUE, 2, -1, SMALL, BIG);
        bounds("promise 29: stairs, what", FOURS, (x, what) -> x.stairs(3, 3, 9, what), at(0, 1, 1, -6), NO_VALUE, 2, -1, SMALL, BIG);
        bounds("promise 36: beside, what", FOURS, (x, what) -> x.beside(0, what), at(0, 12, 1, 2, 2, 3, 3, 4), NONE, 4, -1, SMALL, BIG);
        bounds("promise 37: past, what", FOURS, (x, what) -> x.past(0, what), at(0, 3, 1, 2, 2, 2, 3, 4), NONE, 4, -1, SMALL, BIG);
        bounds("promise 38: walk, what", FOURS, (x, what) -> x.walk(0, 2, what), at(0, 12, 1, 2), NONE, 2, -1, SMALL, BIG);
        bounds("promise 41: count, what", FOURS, (x, what) -> x.count(what), at(0, 0, 1, 1, 2, 12), NONE, 3, -1, SMALL, BIG);
    }

    private static void whatsOfTwo() {
        bounds("promise 19: both, what", FOURS, (x, what) -> x.both(0, 3, what), at(0, 2, 1, 3, 2, 4, 3, 1), NO_VALUE, 4, -1, SMALL, BIG);
        bounds("promise 31: onto, what", FOURS, (x, what) -> x.onto(3, 3, what), at(0, 1, 1, 0, 4, 3), NONE, 5, -1, SMALL, BIG);
        bounds("promise 31: onto of two, what", "", (x, what) -> x.onto(1, 1, what), at(0, 2, 1, 0, 2, 1), NONE, 3, -1);
        bounds("promise 31: onto of eight, what", "uniform 0 8 7", (x, what) -> x.onto(0, 0, what), at(8, 7), NONE, 9, -1);
        bounds("promise 33: shared, what", FOURS + ";price 3 5", (x, what) -> x.shared(0, 3, 2, what), at(0, 2, 1, 5, 2, 9), NO_VALUE,
            3, -1, SMALL, BIG);
        bounds("promise 33: shared by none, what", FOURS, (x, what) -> x.shared(0, 3, 3, what), at(0, 0, 1, NO_VALUE, 2, -2), NO_VALUE, 3, -1);
    }

    private static void counted() {
        bounds("promise 7: BASE k:", FOURS, (x, k) -> x.base(0, k), at(0, 3, 5, 12, 6, -4, BIG, -4), NONE, -1, SMALL);
        bounds("promise 7: of one BASE k:", "told 0 2 1 2 0", (x, k) -> x.base(0, k), at(0, 2, 1, -4), NONE, -1);
        bounds("promise 7: of seventy BASES k:", EIGHT, (x, k) -> x.base(0, k), at(0, 15, 69, 240, 70, -4), NONE, -1);
        bounds("promise 8: FAULT k:", UNLIKE, (x, k) -> x.fault(0, k, 2), at(0, 0, 1, 1, 2, 2, 3, 3, 4, -4, BIG, -4), NONE, -1, SMALL);
        bounds("promise 8: where THE LAW holds, FAULT k:", FOURS, (x, k) -> x.fault(0, k, 0), at(0, -4, BIG, -4), NONE, -1);
        bounds("promise 12: CIRCUIT k:", FOURS, (x, k) -> x.circuit(0, k), at(0, 7, 3, 14, 4, -4, BIG, -4), NONE, -1, SMALL);
        bounds("promise 12: of one CIRCUIT k:", "", (x, k) -> x.circuit(0, k), at(0, 3, 1, -4), NONE, -1);
        bounds("promise 17: FAILING k:", FOURS, (x, k) -> x.failing(3, k), at(-1, 3, 0, 7, 2, 13, 3, -4, BIG, -4), NONE, -2, SMALL);
        bounds("promise 17: where none is FAILING, k:", FOURS, (x, k) -> x.failing(0, k), at(-1, 0, 0, -4), NONE, -2);
        bounds("promise 22: FREE SETS of k:", FOURS, (x, k) -> x.sized(0, k), at(0, 1, 1, 4, 2, 6, 3, 0, 4, 0), NONE, 5, -1, SMALL, BIG);
        bounds("promise 22: of n 2, FREE SETS of k:", "", (x, k) -> x.sized(0, k), at(0, 1, 2, 0), NONE, 3, -1);
        bounds("promise 22: of n 8, FREE SETS of k:", EIGHT, (x, k) -> x.sized(0, k), at(4, 70, 5, 0, 8, 0), NONE, 9, -1);
        bounds("promise 30: byte i:", FOURS, (x, i) -> x.told(3, i), at(-1, 19, 0, 't', 18, '6', 19, -4, BIG, -4), NONE, -2, SMALL);
        bounds("promise 33: SHARED SETS of k:", FOURS, (x, k) -> x.shared(0, 3, k, 0), at(0, 1, 1, 3, 2, 2, 3, 0, 4, 0), NO_VALUE,
            5, -1, SMALL, BIG);
        bounds("promise 33: of n 8, SHARED SETS of k:", EIGHT, (x, k) -> x.shared(0, 0, k, 0), at(0, 1, 8, 0), NO_VALUE, 9, -1);
        bounds("promise 37: PAST k:", FOURS, (x, k) -> x.past(k, 0), at(0, 3, 1, 0), NONE, 2, -1, SMALL, BIG);
    }

    private static void numbers() {
        bounds("promise 23: tutte of x", FOURS, (x, a) -> x.tutte(0, a, 0), at(-3, 3, 4, 24), NO_VALUE, -4, 5, SMALL, BIG);
        bounds("promise 23: tutte of y", FOURS, (x, b) -> x.tutte(0, 0, b), at(-3, 3, 4, 24), NO_VALUE, -4, 5, SMALL, BIG);
        bounds("promise 38: a WALK of n", FOURS, (x, n) -> x.walk(0, n, 1), at(1, 1, 1000, 1000), NONE, 0, 1001, -1, SMALL, BIG);
        bounds("promise 38: the end of a WALK of n", FOURS, (x, n) -> x.walk(0, n, 0), at(1, 10, 2, 12, 3, 10, 999, 10, 1000, 12), NONE, 0, 1001);
        bounds("promise 39: DRAWN times", "told 0 4 2 3 0 12 5", (x, n) -> x.drawn(0, n), at(1, 1, 2, 1, 3, 2, 60, 10), NONE,
            0, 61, -1, SMALL, BIG);
        bounds("promise 40: THE SEED", "", (x, seed) -> x.seed(seed) ? 1 : 0, at(0, 1, 65535, 1), 0, -1, 65536, SMALL, BIG);
        bounds("promise 44: check of n, twenty bytes being there,", "", (x, n) -> {
            x.feed(0x01020000, 0, 0, 0, 0);
            return x.check(n);
        }, at(0, NONE, 2, NONE, 3, 2, 20, 2), -2, 21, -1, 71, SMALL, BIG);
        bounds("promise 44: check of n, eighty bytes being there,", "", (x, n) -> {
            for (int k = 0; k < 4; k++) {
                x.feed(0x01020000, 0, 0, 0, 0);
            }
            return x.check(n);
        }, at(69, 2, 70, 2), -2, 71, 80);
    }

    /** Methods of two SHELVES: unlike n, unlike r. */
    private static void unlike() {
        String text = "uniform 0 4 2;uniform 1 4 3;uniform 2 5 2;uniform 3 5 3";
        bounds("promise 19: both with SHELF", text, (x, t) -> x.both(0, t, 0), at(0, 6), NO_VALUE, 1, 2, 3);
        bounds("promise 20: potential with SHELF", text, (x, t) -> x.potential(0, t, 0), at(0, 0), NO_VALUE, 1, 2, 3);
        bounds("promise 26: quotient with SHELF", text, (x, t) -> x.quotient(0, t), at(0, 1, 1, 0), NONE, 2, 3);
        bounds("promise 31: onto with SHELF", text, (x, t) -> x.onto(0, t, 0), at(0, 24), NONE, 1, 2, 3);
        bounds("promise 33: shared with SHELF", text, (x, t) -> x.shared(0, t, 2, 0), at(0, 6, 1, 6), NO_VALUE, 2, 3);
        bounds("promise 35: far with SHELF", text, (x, t) -> x.far(0, t), at(0, 0), NONE, 1, 2, 3);
        bounds("promise 26: quotient of SHELF, with one of n 4,", text, (x, s) -> x.quotient(s, 0), at(1, 1), NONE, 2, 3);
        bounds("promise 33: shared of SHELF, with one of n 4,", text, (x, s) -> x.shared(s, 0, 2, 0), at(1, 6), NO_VALUE, 2, 3);
    }

    private static void noneFirst() {
        test("promise 3: NONE comes before a FAULT", x -> {
            Texts.feed(x, "x");
            due(x.orders(21), NONE);
        });
        test("promise 7: NONE comes before -4", x -> due(x.base(4, 99), NONE));
        test("promise 8: NONE comes before -4", x -> due(x.fault(0, 99, 3), NONE));
        test("promise 8: no SHELF comes before -4", x -> due(x.fault(4, 99, 0), NONE));
        test("promise 9: NONE comes before -2", UNLIKE, x -> due(x.exchange(4, 3, 12, 0), NONE));
        test("promise 9: i comes before -2", UNLIKE, x -> due(x.exchange(0, 3, 12, 2), NONE));
        test("promise 12: NONE comes before -4", x -> due(x.circuit(-1, 99), NONE));
        test("promise 15: no SHELF comes before -4", x -> due(x.initial(4, 99), NO_VALUE));
        test("promise 17: NONE comes before -4", x -> due(x.failing(4, 99), NONE));
        test("promise 19: unlike r comes before -2", UNLIKE + ";uniform 1 4 1", x -> due(x.both(0, 1, 1), NO_VALUE));
        test("promise 21: no SHELF comes before -2", FOURS, x -> due(x.together(4, 0), NONE));
        test("promise 29: no BASE comes before -2", UNLIKE, x -> due(x.stairs(0, 3, 5, 0), NO_VALUE));
        test("promise 30: NONE comes before -4", x -> due(x.told(4, 999), NONE));
        test("promise 31: NONE comes before -2", FOURS, x -> due(x.onto(0, 3, 5), NONE));
        test("promise 33: no such k comes before -2", FOURS, x -> due(x.shared(0, 3, 5, 2), NO_VALUE));
        test("promise 35: NONE comes before -2", x -> due(x.far(0, 4), NONE));
        test("promise 36: NONE comes before -2", UNLIKE, x -> due(x.beside(4, 1), NONE));
    }
}
