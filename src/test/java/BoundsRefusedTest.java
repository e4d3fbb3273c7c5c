import java.util.function.ToLongFunction;

/** A call that is refused changes nothing but the tape, where it is told; one that only asks changes nothing either. */
public final class BoundsRefusedTest extends Bounds {
    private static final String ON_TAPE = "uniform 3 3 1;price 7 3";
    private static final int TAPED = 40;

    public static void main(String[] args) {
        tapeAndOrders();
        refusedOfOne();
        refusedOfTwo();
        refusedOfTime();
        asked();
        end();
    }

    /** A desk with unlike SHELVES, PRICES, PAST, an X, bytes on the tape, and other ones KEPT. */
    private static PricedBases desk() {
        PricedBases x = new PricedBases();
        Texts.orders(x, "told 0 4 2 3 5 5 -1 6 2 12 7;uniform 1 4 3;graph 2 4 3 0 1 1 2 2 0 0 1;told 3 5 2 3 7 12 7;price 1 4;price 6 -9");
        x.seed(77);
        x.keep();
        Texts.orders(x, "told 1 4 2 3 1 9 2;price 1 -5");
        x.seed(1234);
        Texts.feed(x, ON_TAPE);
        return x;
    }

    /** All that a desk has, the tape's bytes by what they order, what is KEPT by undoing to it. */
    private static String state(PricedBases x) {
        StringBuilder text = new StringBuilder();
        tell(x, text);
        text.append(" orders ").append(x.orders(ON_TAPE.length())).append(' ').append(told(x, 3));
        prices(x, text);
        text.append(" undo ").append(x.undo());
        tell(x, text);
        prices(x, text);
        return text.toString();
    }

    private static void tell(PricedBases x, StringBuilder text) {
        for (int what = 0; what < 3; what++) {
            text.append(' ').append(x.count(what));
        }
        for (int s = 0; s < 4; s++) {
            text.append(", ").append(told(x, s)).append(" rank ").append(x.rank(s, 7));
        }
        for (int k = 0; x.past(k, 0) != NONE; k++) {
            text.append(" past");
            for (int what = 0; what < 4; what++) {
                text.append(' ').append(x.past(k, what));
            }
        }
    }

    /** PRICES can be told only by setting others. */
    private static void prices(PricedBases x, StringBuilder text) {
        text.append(" prices");
        for (int e = 0; e < 8; e++) {
            text.append(' ').append(x.price(e, 0));
        }
    }

    private static void stays(String named, long want, ToLongFunction<PricedBases> call) {
        test(named + " changes nothing", x -> {
            PricedBases called = desk();
            due(call.applyAsLong(called), want);
            due(state(called), state(desk()));
        });
    }

    private static void emptiesTheTape(String named, String text, long want) {
        test(named + " changes nothing but the tape", x -> {
            PricedBases called = desk();
            PricedBases other = desk();
            other.check(0);
            called.check(0);
            due(Texts.orders(called, text), want);
            due(state(called), state(other));
        });
    }

    private static void asks(String named, ToLongFunction<PricedBases> call) {
        test(named + " asks and changes nothing", x -> {
            PricedBases called = desk();
            long once = call.applyAsLong(called);
            due(call.applyAsLong(called), once);
            due(state(called), state(desk()));
        });
    }

    private static void tapeAndOrders() {
        test("promise 2: a refused feed changes nothing", x -> {
            PricedBases called = desk();
            PricedBases other = desk();
            for (int k = TAPED; k < 240; k += 20) {
                called.feed(1, 2, 3, 4, 5);
                other.feed(1, 2, 3, 4, 5);
            }
            due(called.feed(6, 7, 8, 9, 0), NONE);
            due(state(called), state(other));
        });
        stays("promise 3: orders by no bytes", NONE, x -> x.orders(0));
        stays("promise 3: orders by fewer than none", NONE, x -> x.orders(-1));
        stays("promise 3: orders by more than there are", NONE, x -> x.orders(TAPED + 1));
        stays("promise 3: orders by more than 200", NONE, x -> x.orders(201));
        emptiesTheTape("promise 3: FAULT 1", "uniform 0 5 2;price 1 9;x", -1024);
        emptiesTheTape("promise 3: FAULT 2", "uniform 0 5 2;price 1 00000009", -2029);
        emptiesTheTape("promise 3: FAULT 3", "uniform 0 5 2;price 1 1001", -3022);
        emptiesTheTape("promise 3: FAULT 4", "price 1 9;".repeat(16) + "price 1 9", -4160);
        emptiesTheTape("promise 3: FAULT 6", "uniform 0 5 2;told 1 3 1 3 0", -6025);
        emptiesTheTape("promise 3: a CLAUSE that is refused", "join 1 0 3;price 1 9;uniform 0 5 2", 0);
    }

    private static void refusedOfOne() {
        stays("promise 4: price of no ELEMENT", NO_VALUE, x -> x.price(8, 1));
        stays("promise 4: price of ELEMENT -1", NO_VALUE, x -> x.price(-1, 1));
        stays("promise 4: a price too great", NO_VALUE, x -> x.price(1, 1001));
        stays("promise 4: a price too small", NO_VALUE, x -> x.price(1, -1001));
        stays("promise 5: shelf 4", NO_VALUE, x -> x.shelf(4, 0));
        stays("promise 5: shelf, what 13", NO_VALUE, x -> x.shelf(0, 13));
        stays("promise 6: value of no BASE", NO_VALUE, x -> x.value(0, 9));
        stays("promise 7: base -1", NONE, x -> x.base(0, -1));
        stays("promise 7: not so many BASES", -4, x -> x.base(0, 4));
        stays("promise 8: fault, what 3", NONE, x -> x.fault(3, 0, 3));
        stays("promise 8: not so many FAULTS", -4, x -> x.fault(3, 4, 0));
        stays("promise 9: exchange without i", NONE, x -> x.exchange(0, 3, 3, 0));
        stays("promise 9: exchange by none", -2, x -> x.exchange(3, 3, 12, 0));
        stays("promise 10: rank of no SET", NONE, x -> x.rank(0, 16));
        stays("promise 11: closure of no SET", NONE, x -> x.closure(0, 16));
        stays("promise 12: circuit -1", NONE, x -> x.circuit(0, -1));
        stays("promise 12: not so many CIRCUITS", -4, x -> x.circuit(0, 99));
        stays("promise 13: greedy from no BASE", NO_VALUE, x -> x.greedy(0, 9, 0));
        stays("promise 13: greedy, what 4", NO_VALUE, x -> x.greedy(0, 3, 4));
        stays("promise 14: arrive on no SHELF", NONE, x -> x.arrive(4));
        stays("promise 15: initial, what 9", NO_VALUE, x -> x.initial(0, 9));
        stays("promise 15: not so many of INITIAL", -4, x -> x.initial(0, 99));
        stays("promise 16: space of no SHELF", NONE, x -> x.space(4));
        stays("promise 17: failing -2", NONE, x -> x.failing(0, -2));
        stays("promise 17: not so many FAILING", -4, x -> x.failing(0, 99));
        stays("promise 18: spanned, what 2", NONE, x -> x.spanned(0, 2));
        stays("promise 21: together, what 2", NONE, x -> x.together(0, 2));
        stays("promise 21: no COVER", -2, x -> x.together(1, 0));
        stays("promise 22: sized 5", NONE, x -> x.sized(0, 5));
        stays("promise 23: tutte of 5", NO_VALUE, x -> x.tutte(0, 5, 0));
        stays("promise 24: share of no ELEMENT", NO_VALUE, x -> x.share(0, 4, 0));
        stays("promise 25: component of no ELEMENT", NONE, x -> x.component(0, 4));
        stays("promise 27: gap of no ELEMENT", NO_VALUE, x -> x.gap(0, 4, 0));
        stays("promise 27: no gap", NO_VALUE, x -> x.gap(1, 2, 0));
        stays("promise 28: no tips", NO_VALUE, x -> x.tips(1, 2));
        stays("promise 29: stairs to no BASE", NO_VALUE, x -> x.stairs(0, 3, 9, 0));
        stays("promise 29: no STAIRS", -2, x -> x.stairs(3, 3, 12, 0));
        stays("promise 30: told -2", NONE, x -> x.told(0, -2));
        stays("promise 30: not so many bytes", -4, x -> x.told(0, 999));
        stays("promise 32: binary of no SHELF", NONE, x -> x.binary(4));
        stays("promise 34: game of no FREE SET", NONE, x -> x.game(0, 15));
        stays("promise 36: beside, what 4", NONE, x -> x.beside(0, 4));
        stays("promise 36: some have no STAIRS", -2, x -> x.beside(3, 1));
    }

    private static void refusedOfTwo() {
        stays("promise 19: both of unlike n", NO_VALUE, x -> x.both(0, 3, 0));
        stays("promise 19: both, what 4", NO_VALUE, x -> x.both(0, 1, 4));
        stays("promise 20: potential of unlike n", NO_VALUE, x -> x.potential(0, 3, 0));
        stays("promise 20: potential of no ELEMENT", NO_VALUE, x -> x.potential(0, 1, 4));
        stays("promise 26: quotient of unlike n", NONE, x -> x.quotient(0, 3));
        stays("promise 31: onto of unlike n", NONE, x -> x.onto(0, 3, 0));
        stays("promise 31: no row", -2, x -> x.onto(0, 2, 1));
        stays("promise 33: shared of no such k", NO_VALUE, x -> x.shared(0, 1, 5, 0));
        stays("promise 33: none SHARED", -2, x -> x.shared(0, 1, 3, 2));
        stays("promise 35: far of unlike n", NONE, x -> x.far(0, 3));
    }

    private static void refusedOfTime() {
        stays("promise 37: past 6", NONE, x -> x.past(6, 0));
        stays("promise 37: past, what 4", NONE, x -> x.past(0, 4));
        stays("promise 38: a walk of 0", NONE, x -> x.walk(0, 0, 0));
        stays("promise 38: a walk of 1001", NONE, x -> x.walk(0, 1001, 0));
        stays("promise 38: a walk, what 2", NONE, x -> x.walk(0, 9, 2));
        stays("promise 39: drawn 0 times", NONE, x -> x.drawn(0, 0));
        stays("promise 39: drawn 61 times", NONE, x -> x.drawn(0, 61));
        stays("promise 40: seed 65536", 0, x -> x.seed(65536) ? 1 : 0);
        stays("promise 40: seed -1", 0, x -> x.seed(-1) ? 1 : 0);
        stays("promise 41: count 3", NONE, x -> x.count(3));
        stays("promise 44: check of -1", -2, x -> x.check(-1));
        stays("promise 44: check of 71", -2, x -> x.check(71));
        stays("promise 44: check of more than there are", -2, x -> x.check(TAPED + 1));
        test("promise 43: undo of nothing KEPT changes nothing", "told 1 4 2 3 1 9 2;price 1 -5", x -> {
            PricedBases other = new PricedBases();
            Texts.orders(other, "told 1 4 2 3 1 9 2;price 1 -5");
            x.seed(8);
            other.seed(8);
            Texts.feed(x, ON_TAPE);
            Texts.feed(other, ON_TAPE);
            due(x.undo(), false);
            due(state(x), state(other));
        });
        test("promise 44: check changes nothing but the tape", x -> {
            PricedBases called = desk();
            PricedBases other = desk();
            due(called.check(TAPED), 0);
            other.check(0);
            due(state(called), state(other));
        });
    }

    private static void asked() {
        asks("promise 5: shelf, the whole LAW", x -> x.shelf(3, 12));
        asks("promise 8: fault", x -> x.fault(3, 2, 1));
        asks("promise 13: greedy", x -> x.greedy(0, 5, 0));
        asks("promise 14: arrive", x -> x.arrive(0));
        asks("promise 15: initial", x -> x.initial(0, 2));
        asks("promise 17: failing", x -> x.failing(0, -1));
        asks("promise 18: spanned", x -> x.spanned(0, 1));
        asks("promise 20: potential", x -> x.potential(0, 1, 1));
        asks("promise 21: together, cover", x -> x.together(0, 0));
        asks("promise 21: together, pack", x -> x.together(0, 1));
        asks("promise 28: tips", x -> x.tips(0, 1));
        asks("promise 29: stairs", x -> x.stairs(0, 3, 12, 1));
        asks("promise 30: told", x -> x.told(0, 9));
        asks("promise 31: onto", x -> x.onto(2, 2, 0));
        asks("promise 33: shared", x -> x.shared(0, 1, 2, 2));
        asks("promise 34: game", x -> x.game(0, 0));
        asks("promise 36: beside", x -> x.beside(2, 1));
        asks("promise 38: walk", x -> x.walk(2, 1000, 0));
        asks("promise 39: drawn", x -> x.drawn(0, 60));
    }
}
