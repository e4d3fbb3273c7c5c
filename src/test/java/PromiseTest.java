import java.lang.reflect.Modifier;

/** For each promise of the document: what is ordinary, the edges it names, and what is refused. */
public final class PromiseTest {
    private static final int NONE = -1;
    private static final int NO_VALUE = -2147483648;
    private static final int BIG = 2147483647;

    private static int wrong = 0;
    private static int asked = 0;

    private static void due(String what, long got, long want) {
        asked++;
        if (got != want) {
            wrong++;
            System.out.println(what + " answered " + got + ", due is " + want);
        }
    }

    private static void due(String what, boolean got, boolean want) {
        due(what, got ? 1 : 0, want ? 1 : 0);
    }

    private static PricedBases with(String text) {
        PricedBases x = new PricedBases();
        due("orders " + text, Texts.orders(x, text), Texts.clauses(text));
        return x;
    }

    public static void main(String[] args) {
        made();
        fed();
        clauseTexts();
        faultTexts();
        anewClauses();
        derivedClauses();
        refusedClauses();
        prices();
        shelves();
        basesAndLaw();
        ranks();
        greedyWays();
        spaces();
        couples();
        counts();
        gaps();
        ways();
        telling();
        ontos();
        sharing();
        games();
        pasts();
        draws();
        keeping();
        checks();
        System.out.println(asked + " questions, " + wrong + " wrong");
        if (wrong != 0) {
            System.exit(1);
        }
    }

    private static void made() {
        PricedBases x = new PricedBases();
        for (int s = 0; s < 4; s++) {
            due("n at first", x.shelf(s, 0), 2);
            due("r at first", x.shelf(s, 1), 1);
            due("bases at first", x.shelf(s, 2), 2);
            due("value at first", x.value(s, 1), 0);
            due("value at first", x.value(s, 2), 0);
        }
        due("X at first", x.count(1), 1);
        due("tape at first", x.count(0), 0);
        due("NONE", PricedBases.NONE, -1);
        due("NO_VALUE", PricedBases.NO_VALUE, -2147483648L);
        due("final", Modifier.isFinal(PricedBases.class.getModifiers()), true);
        due("public methods", java.util.Arrays.stream(PricedBases.class.getDeclaredMethods())
            .filter(m -> !Modifier.isPrivate(m.getModifiers())).count(), 43);
        due("fields to be seen", java.util.Arrays.stream(PricedBases.class.getDeclaredFields())
            .filter(f -> !Modifier.isPrivate(f.getModifiers())).count(), 2);
    }

    private static void fed() {
        PricedBases x = new PricedBases();
        for (int k = 1; k <= 12; k++) {
            due("feed", x.feed(0x01020380, 0, 0, 0, -1), 20 * k);
        }
        due("feed beyond", x.feed(0, 0, 0, 0, 0), NONE);
        due("tape", x.count(0), 240);
        PricedBases y = with("told 0 8 1 1 0 2 0 128 0");
        due("feed", y.feed(0x01028003, 0, 0, 0, 0), 20);
        due("bytes, the highest first", y.check(4), 3);
    }

    private static void clauseTexts() {
        PricedBases x = new PricedBases();
        due("orders, none fed", x.orders(1), NONE);
        Texts.feed(x, "price 0 3");
        due("orders 0", x.orders(0), NONE);
        due("orders -1", x.orders(-1), NONE);
        due("orders 21", x.orders(21), NONE);
        due("the tape stays", x.count(0), 20);
        due("orders", x.orders(9), 1);
        due("the tape is empty", x.count(0), 0);
        due("price", x.price(0, 0), 3);
        for (int k = 0; k < 11; k++) {
            x.feed(0, 0, 0, 0, 0);
        }
        due("orders 201", x.orders(201), NONE);
        due("the tape stays", x.count(0), 220);
        due("orders 200", x.orders(200), -1000);
        due("a fault empties the tape", x.count(0), 0);
        due("nothing is done by a fault", Texts.orders(x, "price 1 7;price 2 x"), -1018);
        due("nothing is done by a fault", x.price(1, 0), 0);
        due("minus nought", Texts.orders(x, "price -0 -0000005"), 1);
        due("price", x.price(0, 0), -5);
        String sixteen = "price 0 1;price 1 1;price 2 1;price 3 1;price 4 1;price 5 1;price 6 1;price 7 1";
        due("sixteen", Texts.orders(x, sixteen + ";" + sixteen), 16);
    }

    private static void fault(String text, int want) {
        PricedBases x = new PricedBases();
        due("fault of " + text, Texts.orders(x, text), want);
        due("past of " + text, x.past(0, 0), NONE);
    }

    private static void faultTexts() {
        fault("price", -1005);
        fault("pric", -1000);
        fault("pricee 0 0", -1000);
        fault("Price 0 0", -1000);
        fault(" price 0 0", -1000);
        fault(";", -1000);
        fault("price 0 0;", -1010);
        fault("price 0 0;;price 0 0", -1010);
        fault("price 0 0 ", -1009);
        fault("price  0 0", -1006);
        fault("price 0", -1007);
        fault("price 0 ", -1008);
        fault("price 0 -", -1009);
        fault("price 0 --1", -1009);
        fault("price 0 +1", -1008);
        fault("price0 1", -1005);
        fault("price 0 1x", -1009);
        fault("price 0 \u00e9", -1008);
        fault("price 0 00000001", -2015);
        fault("price 0 -00000001", -2016);
        fault("price 8 0", -3006);
        fault("price -1 0", -3006);
        fault("price 8x", -3006);
        fault("price 0 1001", -3008);
        fault("price 0 -1001", -3008);
        fault("uniform 4 2 1", -3008);
        fault("uniform 0 9 1", -3010);
        fault("uniform 0 1 1", -3010);
        fault("uniform 0 9999999 1", -3010);
        fault("uniform 0 2 0", -3012);
        fault("uniform 0 2 2", -3012);
        fault("uniform 0 2", -1011);
        fault("uniform 0 2 1 0", -1013);
        fault("match 0 2 1 1000 0", -3012);
        fault("match 0 2 1 0 -1000", -3014);
        fault("match 0 2 1 0", -1013);
        fault("match 0 2 1 0 0 0", -1015);
        fault("graph 0 2 1 0 0 0 0", -3010);
        fault("graph 0 2 7 0 0 0 0", -3010);
        fault("graph 0 2 2 0 2 0 1", -3014);
        fault("graph 0 2 2 2 0 0 1", -3012);
        fault("graph 0 2 2 0 0 0 1", -6014);
        fault("graph 0 2 2 0 1 1 1", -6018);
        fault("graph 0 2 2 0 1 0 1 0", -1019);
        fault("graph 0 9999999 2 0 1 0 1", -3008);
        fault("told 0 2 1", -1010);
        fault("told 0 2 1 1", -1012);
        fault("told 0 2 1 1 0 2", -1016);
        fault("told 0 2 1 1 0 1 0", -6015);
        fault("told 0 2 1 3 0", -6011);
        fault("told 0 2 1 4 0", -6011);
        fault("told 0 2 1 0 0", -6011);
        fault("told 0 2 1 256 0", -3011);
        fault("told 0 2 1 -1 0", -3011);
        fault("told 0 2 1 1 1000001", -3013);
        fault("told 0 2 1 1 -1000001", -3013);
        fault("told 0 2 1 1 0 ", -1015);
        fault("dual 0 4", -3007);
        fault("dual 0", -1006);
        fault("without 0 0 8", -3012);
        fault("by 0 0", -1006);
        fault("plus 0 0 4", -3009);
        fault("join 0 0 -1", -3009);
        fault("cut 0 0 0", -1007);
        fault("initial 0 4", -3010);
        fault("raise 0 0;shift 0 5", -3018);
        String sixteen = "cut 0 0;cut 0 0;cut 0 0;cut 0 0;cut 0 0;cut 0 0;cut 0 0;cut 0 0;"
            + "cut 0 0;cut 0 0;cut 0 0;cut 0 0;cut 0 0;cut 0 0;cut 0 0;cut 0 0;";
        fault(sixteen, -4128);
        fault(sixteen + "cut 0 0", -4128);
        fault(sixteen + "!", -4128);
        fault(sixteen + ";", -4128);
        fault(sixteen.substring(0, 126) + "9;cut 0 0", -3126);
    }

    private static void anewClauses() {
        PricedBases x = with("uniform 1 8 4;match 0 3 2 1 5 -2 4 4 0;graph 2 4 3 0 1 1 2 0 2 0 1");
        due("uniform", x.shelf(1, 2), 70);
        due("uniform", x.value(1, 240), 0);
        due("match 0 1", x.value(0, 3), 9);
        due("match 0 2", x.value(0, 5), 2);
        due("match 1 2", x.value(0, 6), 5);
        due("match has all sets", x.shelf(0, 2), 3);
        due("graph n", x.shelf(2, 0), 4);
        due("graph r", x.shelf(2, 1), 2);
        due("two edges side by side", x.value(2, 9), NO_VALUE);
        due("a tree", x.value(2, 3), 0);
        due("a graph's trees", x.shelf(2, 2), 5);
        x = with("told 3 3 2 6 -1000000 3 1000000");
        due("told", x.value(3, 6), -1000000);
        due("told", x.value(3, 3), 1000000);
        due("not told", x.value(3, 5), NO_VALUE);
        due("other shelves stay", x.shelf(0, 0), 2);
        x = with("graph 0 6 6 0 1 0 2 0 3 0 4 0 5 5 4;uniform 1 8 1");
        due("a star and one edge more", x.shelf(0, 2), 3);
        due("a star and one edge more", x.value(0, 31), 0);
        due("uniform", x.shelf(1, 2), 8);
    }

    private static void derivedClauses() {
        PricedBases x = with("told 0 4 2 3 1 5 2 9 3 6 4 10 5 12 9;dual 1 0;without 2 0 1;by 3 0 1");
        due("dual", x.value(1, 12), 1);
        due("dual", x.value(1, 3), 9);
        due("without n", x.shelf(2, 0), 3);
        due("without r", x.shelf(2, 1), 2);
        due("without", x.value(2, 3), 2);
        due("without", x.value(2, 5), 3);
        due("without", x.value(2, 6), 9);
        due("by r", x.shelf(3, 1), 1);
        due("by", x.value(3, 1), 1);
        due("by", x.value(3, 2), 4);
        due("by", x.value(3, 4), 5);
        due("more", Texts.orders(x, "price 0 10;price 3 -4;shift 1 0;cut 2 0;raise 3 0;plus 0 2 2"), 6);
        due("shift", x.value(1, 3), 11);
        due("shift", x.value(1, 9), 9);
        due("shift", x.value(1, 12), 5);
        due("cut", x.value(2, 1), 3);
        due("cut", x.value(2, 2), 5);
        due("cut", x.value(2, 4), 9);
        due("cut", x.value(2, 8), 9);
        due("raise r", x.shelf(3, 1), 3);
        due("raise", x.value(3, 7), 4);
        due("raise", x.value(3, 11), 5);
        due("plus n", x.shelf(0, 0), 8);
        due("plus r", x.shelf(0, 1), 2);
        due("plus", x.value(0, 17), 6);
        due("plus", x.value(0, 40), 14);
        due("plus", x.value(0, 136), 18);
        x = with("told 0 3 1 1 5 2 3;told 1 3 1 2 4 4 -9;join 2 0 1;price 1 1;initial 3 1;initial 0 0");
        due("join", x.value(2, 3), 9);
        due("join", x.value(2, 5), -4);
        due("join", x.value(2, 6), -6);
        due("initial", x.value(3, 2), 0);
        due("initial", x.shelf(3, 2), 1);
        due("initial", x.value(0, 1), 0);
        due("initial of greatest sums", x.shelf(0, 2), 1);
        x = with("told 0 4 2 3 4 6 7;without 0 0 3;by 0 0 1;plus 0 0 0;dual 0 0");
        due("a shelf made of itself", x.shelf(0, 0) * 10 + x.shelf(0, 2), 44);
        due("a shelf made of itself", x.value(0, 9), 11);
    }

    private static void refusedClauses() {
        String[] texts = {
            "by 0 0 0", "without 0 0 0", "cut 0 0", "raise 0 0", "without 0 0 2", "by 0 0 7",
            "graph 0 2 3 0 1 1 2", "graph 0 3 3 0 1 0 1 1 0", "plus 0 0 0;plus 0 0 0;plus 0 0 0",
            "uniform 1 3 1;join 0 0 1", "join 0 0 0", "told 0 3 1 1 0;join 0 0 0",
            "told 0 2 1 1 1000000;price 0 1;shift 0 0",
            "told 0 2 1 1 600000;plus 0 0 0", "told 0 3 1 1 -999999 2 0;told 1 3 1 2 -2 1 0;join 0 0 1",
            "told 0 3 1 4 0;by 0 0 0", "told 0 3 1 1 0;without 0 0 0", "uniform 0 3 2;without 0 0 0",
            "graph 0 5 6 0 1 0 2 0 3 0 4 0 5",
        };
        int[] done = {0, 0, 0, 0, 0, 0, 0, 0, 2, 1, 0, 1, 2, 1, 4, 1, 1, 1, 0};
        for (int k = 0; k < texts.length; k++) {
            due("done of " + texts[k], Texts.orders(new PricedBases(), texts[k] + ";price 7 9"), done[k]);
        }
        PricedBases x = new PricedBases();
        due("one refused", Texts.orders(x, "price 0 3;uniform 0 3 1;cut 0 0;price 0 4"), 2);
        due("what was done stays", x.price(0, 0), 3);
        due("what was done stays", x.shelf(0, 0), 3);
    }

    private static void prices() {
        PricedBases x = new PricedBases();
        due("price", x.price(7, -1000), 0);
        due("price", x.price(7, 1000), -1000);
        due("price", x.price(7, 0), 1000);
        due("price 8", x.price(8, 0), NO_VALUE);
        due("price -1", x.price(-1, 0), NO_VALUE);
        due("price beyond", x.price(0, 1001), NO_VALUE);
        due("price beyond", x.price(0, -1001), NO_VALUE);
        due("a refused one changes nothing", x.price(0, 0), 0);
    }

    private static void shelf(PricedBases x, int s, int... want) {
        for (int what = 0; what < want.length; what++) {
            due("shelf " + s + " what " + what, x.shelf(s, what), want[what]);
        }
    }

    private static void shelves() {
        PricedBases x = with("uniform 0 4 2;told 1 4 2 3 7 12 7;told 2 3 2 3 0 5 -4;graph 3 4 3 0 1 1 2 0 2 0 1");
        shelf(x, 0, 4, 2, 6, 0, 3, 0, 0, 1, 1, 11, 6, 4, 0);
        shelf(x, 1, 4, 2, 2, 7, 3, 0, 0, 0, 0, 7, 6, 4, 4);
        shelf(x, 2, 3, 2, 2, 0, 3, 0, 1, 1, 1, 6, 4, 1, 0);
        shelf(x, 3, 4, 2, 5, 0, 3, 0, 0, 1, 1, 10, 5, 3, 0);
        due("what 13", x.shelf(0, 13), NO_VALUE);
        due("what -1", x.shelf(0, -1), NO_VALUE);
        due("shelf -1", x.shelf(-1, 0), NO_VALUE);
        due("shelf 4", x.shelf(4, 0), NO_VALUE);
        x = with("told 0 4 2 3 1 12 1 5 0 10 0 6 0 9 0;told 1 3 1 2 -5 4 -5");
        shelf(x, 0, 4, 2, 6, 1, 3, 0, 0, 0, 1, 11, 6, 4, 4);
        shelf(x, 1, 3, 1, 2, -5, 2, 1, 0, 1, 1, 3, 2, 2, 0);
    }

    private static void basesAndLaw() {
        PricedBases x = with("uniform 0 4 2;told 1 4 2 3 7 12 7;told 2 4 2 3 1 12 1 5 1 10 1 6 0 9 0");
        int[] bases = {3, 5, 6, 9, 10, 12};
        for (int k = 0; k < 6; k++) {
            due("base " + k, x.base(0, k), bases[k]);
        }
        due("base 6", x.base(0, 6), -4);
        due("base beyond", x.base(0, BIG), -4);
        due("base -1", x.base(0, -1), NONE);
        due("base of no shelf", x.base(4, 0), NONE);
        due("value", x.value(1, 12), 7);
        due("value of no base", x.value(1, 5), NO_VALUE);
        due("value of no set", x.value(1, 16), NO_VALUE);
        due("value of no set", x.value(1, -1), NO_VALUE);
        due("value of no set", x.value(1, BIG), NO_VALUE);
        due("value of no shelf", x.value(-1, 3), NO_VALUE);
        int[][] faults = {{3, 12, 0}, {3, 12, 1}, {12, 3, 2}, {12, 3, 3}};
        for (int k = 0; k < 4; k++) {
            for (int what = 0; what < 3; what++) {
                due("fault " + k + " " + what, x.fault(1, k, what), faults[k][what]);
            }
        }
        due("fault 4", x.fault(1, 4, 0), -4);
        due("fault beyond", x.fault(1, BIG, 0), -4);
        due("fault -1", x.fault(1, -1, 0), NONE);
        due("fault what 3", x.fault(1, 0, 3), NONE);
        due("fault what -1", x.fault(1, 0, -1), NONE);
        due("fault of no shelf", x.fault(4, 0, 0), NONE);
        due("no fault", x.fault(2, 0, 0), -4);
        due("exchange", x.exchange(0, 3, 12, 0), 2);
        due("exchange by the one that values let", x.exchange(2, 3, 12, 1), 2);
        due("exchange by the one that values let", x.exchange(2, 3, 12, 0), 3);
        due("exchange by none", x.exchange(1, 3, 12, 0), -2);
        due("exchange, i of both", x.exchange(0, 3, 5, 0), NONE);
        due("exchange, i of B", x.exchange(0, 3, 12, 2), NONE);
        due("exchange, i of none", x.exchange(0, 3, 5, 3), NONE);
        due("exchange, i 4", x.exchange(0, 3, 12, 4), NONE);
        due("exchange, i 32", x.exchange(0, 3, 12, 32), NONE);
        due("exchange, i -1", x.exchange(0, 3, 12, -1), NONE);
        due("exchange, A no base", x.exchange(1, 5, 12, 0), NONE);
        due("exchange, B no base", x.exchange(1, 3, 6, 0), NONE);
        due("exchange, no shelf", x.exchange(4, 3, 12, 0), NONE);
        due("exchange goes by values", Texts.orders(x, "told 0 4 2 3 3 12 3 5 0 10 0 6 3 9 3"), 1);
        due("exchange goes by values", x.exchange(0, 3, 12, 0), 2);
        due("exchange goes by values", x.exchange(0, 12, 3, 2), 0);
        due("exchange goes by values", x.exchange(0, 3, 12, 1), 3);
    }

    private static void ranks() {
        PricedBases x = with("graph 0 5 4 0 1 1 2 0 2 2 3 2 3;told 1 4 2 3 7 12 7");
        due("rank of nothing", x.rank(0, 0), 0);
        due("rank of a ring", x.rank(0, 7), 2);
        due("rank of all", x.rank(0, 31), 3);
        due("rank of two alike", x.rank(0, 24), 1);
        due("rank 32", x.rank(0, 32), NONE);
        due("rank -1", x.rank(0, -1), NONE);
        due("rank of no shelf", x.rank(4, 0), NONE);
        due("closure", x.closure(0, 3), 7);
        due("closure", x.closure(0, 8), 24);
        due("closure", x.closure(0, 11), 31);
        due("closure of nothing", x.closure(0, 0), 0);
        due("closure where the law fails", x.closure(1, 1), 13);
        due("closure 32", x.closure(0, 32), NONE);
        due("closure -1", x.closure(0, -1), NONE);
        due("closure of no shelf", x.closure(-1, 0), NONE);
        due("circuit 0", x.circuit(0, 0), 7);
        due("circuit 1", x.circuit(0, 1), 24);
        due("circuit 2", x.circuit(0, 2), -4);
        due("circuit beyond", x.circuit(0, BIG), -4);
        due("circuit -1", x.circuit(0, -1), NONE);
        due("circuit of no shelf", x.circuit(4, 0), NONE);
        due("component", x.component(0, 2), 0);
        due("component", x.component(0, 4), 3);
        due("component 5", x.component(0, 5), NONE);
        due("component -1", x.component(0, -1), NONE);
        due("component of no shelf", x.component(4, 0), NONE);
        due("more", Texts.orders(x, "told 2 4 2 6 0 10 0;graph 3 5 4 0 1 1 2 0 2 2 3 0 3"), 2);
        due("a loop hangs with itself", x.component(2, 0), 0);
        due("a bridge hangs with itself", x.component(2, 1), 1);
        due("two in turn", x.component(2, 3), 2);
        due("by two circuits", x.component(3, 4), 0);
        due("a loop is in the closure", x.closure(2, 0), 1);
        due("quotient of itself", x.quotient(0, 0), 1);
        due("quotient", x.quotient(1, 2), 0);
        due("a cut is a quotient", Texts.orders(x, "cut 1 0"), 1);
        due("a cut is a quotient", x.quotient(0, 1), 1);
        due("but not the other way", x.quotient(1, 0), 0);
        due("quotient of unlike n", x.quotient(0, 2), NONE);
        due("quotient of no shelf", x.quotient(4, 0), NONE);
        due("quotient of no shelf", x.quotient(0, -1), NONE);
    }

    private static void greedyWays() {
        PricedBases x = with("uniform 0 4 2;price 0 1;price 1 1;price 2 3;price 3 3;told 1 4 2 3 9 12 7 5 0 9 5 10 5");
        due("greedy last", x.greedy(0, 3, 0), 12);
        due("greedy sum", x.greedy(0, 3, 1), 6);
        due("greedy steps", x.greedy(0, 3, 2), 2);
        due("greedy is right", x.greedy(0, 3, 3), 1);
        due("greedy what 4", x.greedy(0, 3, 4), NO_VALUE);
        due("greedy what -1", x.greedy(0, 3, -1), NO_VALUE);
        due("greedy from no base", x.greedy(1, 6, 0), NO_VALUE);
        due("greedy from no set", x.greedy(0, 16, 0), NO_VALUE);
        due("greedy from no set", x.greedy(0, -1, 0), NO_VALUE);
        due("greedy of no shelf", x.greedy(4, 3, 0), NO_VALUE);
        // sums on shelf 1: 3 has 11, 5 has 4, 9 has 9, 10 has 9, 12 has 13
        due("greedy stays", x.greedy(1, 3, 0), 3);
        due("greedy stays", x.greedy(1, 3, 2), 0);
        due("greedy is not right", x.greedy(1, 3, 3), 0);
        due("greedy goes to the greatest", x.greedy(1, 9, 0), 12);
        due("greedy goes to the greatest", x.greedy(1, 5, 0), 12);
        due("arrive", x.arrive(1), 4);
        due("arrive", x.arrive(0), 6);
        due("arrive of no shelf", x.arrive(4), NONE);
        due("initial many", x.initial(1, 0), 1);
        due("initial sum", x.initial(1, 1), 13);
        due("initial base", x.initial(1, 10), 12);
        due("initial base 1", x.initial(1, 11), -4);
        due("initial base beyond", x.initial(1, BIG), -4);
        due("initial what 3", x.initial(1, 3), NO_VALUE);
        due("initial what 9", x.initial(1, 9), NO_VALUE);
        due("initial what -1", x.initial(1, -1), NO_VALUE);
        due("initial of no shelf", x.initial(-1, 0), NO_VALUE);
        due("like ones", Texts.orders(x, "uniform 0 4 2;price 0 0;price 1 5;price 2 5;price 3 5"), 5);
        due("of like ones the least", x.greedy(0, 9, 0), 10);
        due("of like ones the least", x.greedy(0, 3, 0), 6);
        due("initial many", x.initial(0, 0), 3);
        due("initial base 0", x.initial(0, 10), 6);
        due("initial base 1", x.initial(0, 11), 10);
        due("initial base 2", x.initial(0, 12), 12);
        due("initial base 3", x.initial(0, 13), -4);
        due("initial law", x.initial(0, 2), 1);
        due("no law", Texts.orders(x, "told 1 4 2 3 5 12 0 5 -9;price 1 0;price 2 0;price 3 5"), 4);
        due("initial without the law", x.initial(1, 2), 0);
        due("initial of two", x.initial(1, 0), 2);
    }

    private static void spaces() {
        PricedBases x = with("uniform 0 3 1;told 1 4 2 3 7 12 7;told 2 3 2 3 0");
        due("space", x.space(0), 1);
        x.price(0, 4);
        due("not in space", x.space(0), 0);
        due("failing", x.failing(0, -1), 2);
        due("failing 0", x.failing(0, 0), 3);
        due("failing 1", x.failing(0, 1), 5);
        due("failing 2", x.failing(0, 2), -4);
        due("failing beyond", x.failing(0, BIG), -4);
        due("failing -2", x.failing(0, -2), NONE);
        due("failing of no shelf", x.failing(4, -1), NONE);
        due("space of no shelf", x.space(4), NONE);
        x.price(1, 4);
        due("each set asks for two", x.space(0), 0);
        x.price(2, 4);
        due("space by prices above", x.space(0), 1);
        due("one base fails alone", x.failing(2, 0), 7);
        due("one base fails alone", x.failing(2, -1), 1);
        due("spanned many", x.spanned(1, 0), 4);
        due("spanned in space", x.spanned(1, 1), 0);
        due("spanned of nothing", x.spanned(0, 0), 1);
        due("spanned of nothing", x.spanned(0, 1), 1);
        due("spanned what 2", x.spanned(0, 2), NONE);
        due("spanned what -1", x.spanned(0, -1), NONE);
        due("spanned of no shelf", x.spanned(4, 0), NONE);
        due("match", Texts.orders(x, "match 3 5 2 1 4 -3 2 0 5 5 1 7 2"), 1);
        due("spanned of a match", x.spanned(3, 0), 5);
        due("all are in space where the law holds", x.spanned(3, 1), 5 * x.shelf(3, 7));
    }

    private static void couples() {
        PricedBases x = with("told 0 3 1 1 5 2 3 4 0;told 1 3 1 1 0 2 2 4 9;told 2 3 2 3 0;uniform 3 4 1");
        due("both many", x.both(0, 1, 0), 3);
        due("the common", x.both(0, 1, 1), 4);
        due("values together", x.both(0, 1, 2), 9);
        due("potentials", x.both(0, 1, 3), 1);
        // from 4's element: p0 <= p2 - 5, p1 <= p2 - 3 by the first; p2 <= p0 + 9, p2 <= p1 + 7 by the second
        due("potential 0", x.potential(0, 1, 0), -5);
        due("potential 1", x.potential(0, 1, 1), -3);
        due("potential 2", x.potential(0, 1, 2), 0);
        due("potential 3", x.potential(0, 1, 3), NO_VALUE);
        due("potential -1", x.potential(0, 1, -1), NO_VALUE);
        due("the other way", x.potential(1, 0, 2), -5);
        due("both what 4", x.both(0, 1, 4), NO_VALUE);
        due("both what -1", x.both(0, 1, -1), NO_VALUE);
        due("both of unlike r", x.both(0, 2, 0), NO_VALUE);
        due("both of unlike n", x.both(0, 3, 0), NO_VALUE);
        due("both of no shelf", x.both(4, 0, 0), NO_VALUE);
        due("both of no shelf", x.both(0, -1, 0), NO_VALUE);
        due("potential of unlike r", x.potential(0, 2, 0), NO_VALUE);
        due("potential of no shelf", x.potential(4, 0, 0), NO_VALUE);
        due("far", x.far(0, 1), 14);
        due("far of itself", x.far(0, 0), 0);
        due("far of unlike r", x.far(0, 2), NONE);
        due("far of unlike n", x.far(0, 3), NONE);
        due("far of no shelf", x.far(0, 4), NONE);
        due("far below", Texts.orders(x, "told 0 3 1 1 -5 2 -3;told 1 3 1 1 0 2 0;told 2 3 1 4 8"), 3);
        due("far below nought", x.far(0, 1), 2);
        due("far with none", x.far(0, 2), -2);
        due("both with none", x.both(0, 2, 0), 0);
        due("the common with none", x.both(0, 2, 1), -2);
        due("values with none", x.both(0, 2, 2), NO_VALUE);
        due("potentials with none", x.both(0, 2, 3), 0);
        due("potential with none", x.potential(0, 2, 0), NO_VALUE);
        due("of like ones the least", Texts.orders(x, "told 0 3 1 1 0 2 4 4 4;told 1 3 1 1 9 2 5 4 5"), 2);
        due("of like ones the least", x.both(0, 1, 1), 1);
        due("a ring that goes down", Texts.orders(x, "told 0 4 2 5 0 6 2 9 2 10 -9;told 1 4 2 5 0 6 -9 9 -9 10 -9"
            + ";told 2 4 2 3 0 9 5 10 -9;told 3 4 2 3 0 6 0 9 -9"), 4);
        due("potentials over no ring", x.both(0, 1, 3), 1);
        due("no potentials", Texts.orders(x, "told 0 4 2 3 0 6 5 9 5;told 1 4 2 3 0 10 5 5 5"), 2);
        due("the only one", x.both(0, 1, 1), 3);
        due("no potentials", x.both(0, 1, 3), 0);
        due("no potential", x.potential(0, 1, 0), NO_VALUE);
    }

    private static void counts() {
        PricedBases x = with("uniform 0 4 2;told 1 4 2 6 0 10 0;graph 2 5 4 0 1 1 2 0 2 2 3 2 3;uniform 3 8 7");
        due("cover", x.together(0, 0), 2);
        due("pack", x.together(0, 1), 2);
        due("cover with a loop", x.together(1, 0), -2);
        due("pack with a loop", x.together(1, 1), 1);
        due("cover of a graph", x.together(2, 0), 2);
        due("pack of a graph", x.together(2, 1), 1);
        due("together what 2", x.together(0, 2), NONE);
        due("together what -1", x.together(0, -1), NONE);
        due("together of no shelf", x.together(4, 0), NONE);
        int[] sized = {1, 4, 6, 0, 0};
        for (int k = 0; k < 5; k++) {
            due("sized " + k, x.sized(0, k), sized[k]);
        }
        due("sized 5", x.sized(0, 5), NONE);
        due("sized -1", x.sized(0, -1), NONE);
        due("sized of no shelf", x.sized(4, 0), NONE);
        // x x + 2 x + 2 y + y y for two of four
        for (int a = -3; a <= 4; a++) {
            for (int b = -3; b <= 4; b++) {
                due("tutte " + a + " " + b, x.tutte(0, a, b), a * a + 2 * a + 2 * b + b * b);
                due("tutte of a loop and a bridge " + a + " " + b, x.tutte(1, a, b), a * b * (a + b));
            }
        }
        due("tutte 5", x.tutte(0, 5, 0), NO_VALUE);
        due("tutte -4", x.tutte(0, 0, -4), NO_VALUE);
        due("tutte 5", x.tutte(0, 0, 5), NO_VALUE);
        due("tutte of no shelf", x.tutte(4, 0, 0), NO_VALUE);
        due("share", x.share(0, 3, 0) * 100 + x.share(0, 3, 1), 102);
        due("share of a loop", x.share(1, 0, 0) * 100 + x.share(1, 0, 1), 1);
        due("share of a bridge", x.share(1, 1, 0) * 100 + x.share(1, 1, 1), 101);
        due("share of a ring's", x.share(2, 1, 0) * 100 + x.share(2, 1, 1), 203);
        due("share of seven eighths", x.share(3, 7, 0) * 100 + x.share(3, 7, 1), 708);
        due("share 4", x.share(0, 4, 0), NO_VALUE);
        due("share -1", x.share(0, -1, 0), NO_VALUE);
        due("share what 2", x.share(0, 0, 2), NO_VALUE);
        due("share what -1", x.share(0, 0, -1), NO_VALUE);
        due("share of no shelf", x.share(4, 0, 0), NO_VALUE);
        due("binary of two of four", x.binary(0), 0);
        due("binary of a graph", x.binary(2), 1);
        due("binary of a few", x.binary(1), 1);
        due("binary of no shelf", x.binary(-1), NONE);
        due("plus", Texts.orders(x, "told 0 2 1 1 0;uniform 1 4 2;plus 2 0 1;uniform 3 5 3"), 4);
        due("binary by a bridge ahead", x.binary(2), 0);
        due("binary of three of five", x.binary(3), 0);
    }

    private static void gaps() {
        PricedBases x = with("told 0 4 2 3 7 5 1 6 4;price 0 3;price 2 -2");
        // sums: 3 has 10, 5 has 2, 6 has 2
        due("gap with", x.gap(0, 2, 0), 2);
        due("gap without", x.gap(0, 2, 1), 10);
        due("gap with a loop", x.gap(0, 3, 0), NO_VALUE);
        due("gap without a loop", x.gap(0, 3, 1), 10);
        due("gap 4", x.gap(0, 4, 0), NO_VALUE);
        due("gap -1", x.gap(0, -1, 0), NO_VALUE);
        due("gap what 2", x.gap(0, 0, 2), NO_VALUE);
        due("gap what -1", x.gap(0, 0, -1), NO_VALUE);
        due("gap of no shelf", x.gap(4, 0, 0), NO_VALUE);
        due("tips", x.tips(0, 2), 6);
        due("tips", x.tips(0, 0), -5);
        due("tips", x.tips(0, 1), -8);
        due("tips of a loop", x.tips(0, 3), NO_VALUE);
        due("tips 4", x.tips(0, 4), NO_VALUE);
        due("tips -1", x.tips(0, -1), NO_VALUE);
        due("tips of no shelf", x.tips(4, 0), NO_VALUE);
        due("bridge", Texts.orders(x, "by 1 0 0;told 2 3 2 3 0 5 0"), 2);
        due("tips of a bridge", x.tips(2, 0), NO_VALUE);
        due("gap without a bridge", x.gap(2, 0, 1), NO_VALUE);
    }

    private static void ways() {
        PricedBases x = with("uniform 0 4 2;told 1 4 2 3 7 12 7;price 3 2;told 2 4 2 3 9 5 1 6 -2 12 4 9 -6");
        due("steps", x.stairs(0, 3, 12, 0), 2);
        due("steps", x.stairs(0, 3, 5, 0), 1);
        due("no steps", x.stairs(0, 3, 3, 0), 0);
        due("no stairs", x.stairs(1, 3, 12, 0), -2);
        due("no stairs", x.stairs(1, 3, 12, 1), NO_VALUE);
        due("stairs of one", x.stairs(1, 12, 12, 1), 9);
        due("least sum", x.stairs(2, 3, 12, 1), 1);
        due("least sum, the end counts", x.stairs(2, 3, 9, 1), -4);
        due("least sum, the other end", x.stairs(2, 9, 3, 1), -4);
        due("least sum of one", x.stairs(2, 6, 6, 1), -2);
        due("stairs from no base", x.stairs(1, 5, 12, 0), NO_VALUE);
        due("stairs to no base", x.stairs(1, 3, 16, 0), NO_VALUE);
        due("stairs what 2", x.stairs(0, 3, 5, 2), NO_VALUE);
        due("stairs what -1", x.stairs(0, 3, 5, -1), NO_VALUE);
        due("stairs of no shelf", x.stairs(4, 1, 2, 0), NO_VALUE);
        int[][] beside = {{12, 2, 3, 4}, {0, -2, 3, 0}, {8, 2, 5, 4}};
        for (int s = 0; s < 3; s++) {
            for (int what = 0; what < 4; what++) {
                due("beside " + s + " " + what, x.beside(s, what), beside[s][what]);
            }
        }
        due("beside what 4", x.beside(0, 4), NONE);
        due("beside what -1", x.beside(0, -1), NONE);
        due("beside of no shelf", x.beside(4, 0), NONE);
        due("one base", Texts.orders(x, "told 3 3 2 6 0"), 1);
        due("one base has none beside", x.beside(3, 0), 0);
        due("one base is no step away", x.beside(3, 1), 0);
        due("one base", x.beside(3, 2), 6);
        due("one base", x.beside(3, 3), 0);
    }

    private static void tell(PricedBases x, int s, String want) {
        due("told length", x.told(s, -1), want.length());
        for (int k = 0; k < want.length(); k++) {
            due("told " + k, x.told(s, k), want.charAt(k));
        }
        due("told end", x.told(s, want.length()), -4);
    }

    private static void telling() {
        PricedBases x = with("told 3 4 2 12 -1000000 3 1000000 6 10 9 -7;uniform 1 8 4");
        tell(x, 3, "told 3 4 2 3 1000000 6 10 9 -7 12 -1000000");
        tell(x, 0, "told 0 2 1 1 0 2 0");
        due("told beyond", x.told(0, BIG), -4);
        due("told -2", x.told(0, -2), NONE);
        due("told of no shelf", x.told(4, -1), NONE);
        due("told of no shelf", x.told(-1, 0), NONE);
        int bytes = "told 1 8 4".length();
        for (int set = 0; set < 256; set++) {
            bytes += Integer.bitCount(set) == 4 ? 3 + Integer.toString(set).length() : 0;
        }
        due("told of seventy", x.told(1, -1), bytes);
    }

    private static void ontos() {
        PricedBases x = with("uniform 0 4 2;told 1 4 2 3 7 12 7;told 2 4 2 5 7 10 7;told 3 4 2 5 7 10 6");
        due("onto itself", x.onto(0, 0, 0), 24);
        due("onto", x.onto(1, 2, 0), 8);
        int[] row = {0, 2, 1, 3};
        for (int e = 0; e < 4; e++) {
            due("onto row " + e, x.onto(1, 2, 1 + e), row[e]);
        }
        due("onto of unlike values", x.onto(1, 3, 0), 0);
        due("onto of unlike values", x.onto(1, 3, 1), -2);
        due("onto of fewer bases", x.onto(1, 0, 0), 0);
        due("onto of more bases", x.onto(0, 1, 4), -2);
        due("onto what 5", x.onto(0, 0, 5), NONE);
        due("onto what -1", x.onto(0, 0, -1), NONE);
        due("onto of no shelf", x.onto(4, 0, 0), NONE);
        due("onto of no shelf", x.onto(0, -1, 0), NONE);
        due("others", Texts.orders(x, "uniform 0 8 4;uniform 1 8 3;told 2 3 1 2 5 4 1;told 3 3 1 4 5 1 1"), 4);
        due("onto of eight", x.onto(0, 0, 0), 40320);
        due("onto of eight", x.onto(0, 0, 8), 7);
        due("onto of unlike r", x.onto(0, 1, 0), NONE);
        due("onto of unlike n", x.onto(2, 1, 0), NONE);
        due("onto one row", x.onto(2, 3, 0), 1);
        due("onto one row", x.onto(2, 3, 1) * 100 + x.onto(2, 3, 2) * 10 + x.onto(2, 3, 3), 120);
        due("back", x.onto(3, 2, 1) * 100 + x.onto(3, 2, 2) * 10 + x.onto(3, 2, 3), 201);
    }

    private static void sharing() {
        PricedBases x = with("uniform 0 4 2;told 1 4 3 7 0 11 0;told 2 4 1 4 0 8 0;price 0 2;price 1 -3;price 2 -3");
        due("shared none", x.shared(0, 1, 0, 0), 1);
        due("shared none's sum", x.shared(0, 1, 0, 1), 0);
        due("shared none's set", x.shared(0, 1, 0, 2), 0);
        due("shared pairs", x.shared(0, 1, 2, 0), 5);
        due("shared sum", x.shared(0, 1, 2, 1), 2);
        due("shared set", x.shared(0, 1, 2, 2), 9);
        due("shared singles", x.shared(1, 2, 1, 0), 2);
        due("shared triples", x.shared(0, 1, 3, 0), 0);
        due("shared triples' sum", x.shared(0, 1, 3, 1), NO_VALUE);
        due("shared triples' set", x.shared(0, 1, 3, 2), -2);
        due("shared 4", x.shared(0, 1, 4, 0), 0);
        due("shared 5", x.shared(0, 1, 5, 0), NO_VALUE);
        due("shared -1", x.shared(0, 1, -1, 0), NO_VALUE);
        due("shared what 3", x.shared(0, 1, 2, 3), NO_VALUE);
        due("shared what -1", x.shared(0, 1, 2, -1), NO_VALUE);
        due("shared of unlike n", x.shared(0, 3, 1, 0), NO_VALUE);
        due("shared of no shelf", x.shared(0, 4, 1, 0), NO_VALUE);
        due("shared of no shelf", x.shared(-1, 0, 1, 0), NO_VALUE);
        x.price(3, -3);
        due("of like ones the least", x.shared(0, 1, 2, 2), 3);
        due("of like ones the least", x.shared(2, 1, 1, 2), 4);
    }

    private static void games() {
        PricedBases x = with("uniform 0 4 2;uniform 1 4 3;told 2 4 2 3 0 12 0;told 3 4 2 6 0 10 0");
        due("a game of two", x.game(0, 0), 0);
        due("a game of two, one taken", x.game(0, 1), 2);
        due("a game of two, one taken", x.game(0, 2), 1);
        due("a game of two, both taken", x.game(0, 3), 0);
        due("a game of three", x.game(1, 0), 1);
        due("a game with a loop", x.game(3, 8), 2);
        due("a game with a loop", x.game(3, 0), 0);
        due("a loop is not free", x.game(3, 1), NONE);
        due("not free", x.game(2, 5), NONE);
        due("not free", x.game(0, 7), NONE);
        due("no set", x.game(0, 16), NONE);
        due("no set", x.game(0, -1), NONE);
        due("no shelf", x.game(4, 0), NONE);
    }

    private static void pasts() {
        PricedBases x = with("uniform 0 4 2;price 0 1;dual 2 0;uniform 0 4 2");
        int[][] past = {{0, 6, 6, 4}, {2, 2, 6, 4}, {0, 2, 6, 4}};
        for (int k = 0; k < 3; k++) {
            for (int what = 0; what < 4; what++) {
                due("past " + k + " " + what, x.past(k, what), past[k][what]);
            }
        }
        due("past 3", x.past(3, 0), NONE);
        due("past -1", x.past(-1, 0), NONE);
        due("past what 4", x.past(0, 4), NONE);
        due("past what -1", x.past(0, -1), NONE);
        due("past beyond", x.past(BIG, 0), NONE);
        due("a refused clause", Texts.orders(x, "cut 3 0;cut 3 3;uniform 3 2 1"), 1);
        due("leaves no past of its own", x.past(0, 0) * 1000 + x.past(0, 1) * 100 + x.past(0, 2) * 10 + x.past(0, 3), 3244);
        for (int k = 0; k < 2; k++) {
            due("twenty", Texts.orders(x, "uniform 0 3 1;uniform 0 4 1;uniform 0 5 1;uniform 0 6 1;uniform 0 7 1;uniform 0 8 1;"
                + "uniform 1 3 1;uniform 1 4 1;uniform 1 5 1;uniform 1 6 1"), 10);
        }
        due("past 19", x.past(19, 3), 3);
        due("past 19", x.past(19, 1), 6);
        due("past 20", x.past(20, 0), NONE);
    }

    private static void draws() {
        PricedBases x = with("uniform 0 4 2;told 1 8 2 3 0 12 5 48 9 192 -3 129 4;told 2 3 1 4 0");
        due("X", x.count(1), 1);
        // X goes 39022, 61087: i is the 0th of 0 1, j the 1st of 2 3
        due("walk 1", x.walk(0, 1, 0), 10);
        due("walk 1", x.walk(0, 1, 1), 1);
        due("walk goes on", x.walk(2, 1000, 1), 0);
        due("walk stays", x.walk(2, 1000, 0), 4);
        due("walk as Plain says", x.walk(0, 1000, 0), new PlainOf("uniform 0 4 2").plain.walk(0, 1000, 0));
        due("walk 0", x.walk(0, 0, 0), NONE);
        due("walk 1001", x.walk(0, 1001, 0), NONE);
        due("walk what 2", x.walk(0, 1, 2), NONE);
        due("walk what -1", x.walk(0, 1, -1), NONE);
        due("walk of no shelf", x.walk(4, 1, 0), NONE);
        due("drawn where the law holds", x.drawn(0, 60), 60);
        due("drawn where it does not", x.drawn(1, 60), new PlainOf("told 1 8 2 3 0 12 5 48 9 192 -3 129 4").plain.drawn(1, 60));
        due("drawn 1", x.drawn(2, 1), 1);
        drawsOfFewerElements();
        due("drawn 0", x.drawn(0, 0), NONE);
        due("drawn 61", x.drawn(0, 61), NONE);
        due("drawn of no shelf", x.drawn(4, 1), NONE);
        due("X stays", x.count(1), 1);
        due("prices stay", x.price(0, 0), 0);
        due("seed", x.seed(0), true);
        due("X is the seed", x.count(1), 0);
        // X goes 13849, 48606: i is the 1st of 0 1, j the 0th of 2 3
        due("walk by a seed", x.walk(0, 1, 0), 5);
        due("seed", x.seed(65535), true);
        due("seed 65536", x.seed(65536), false);
        due("seed -1", x.seed(-1), false);
        due("X is the seed", x.count(1), 65535);
        due("count of bases", x.count(2), 6 + 5 + 1 + 2);
        due("count 3", x.count(3), NONE);
        due("count -1", x.count(-1), NONE);
    }

    /** Eight prices are drawn each time: -6 9 5 -8 8 -3 1 3, then 0 -7 5 10 -1 3 -9 -8, then -9 5 -6 -5 -8 8 6 6, .. */
    private static void drawsOfFewerElements() {
        PricedBases x = with("told 0 4 2 3 0 12 5;told 1 4 2 3 0 12 0 5 -1;told 2 4 2 3 0 12 4;told 3 4 2 3 0 12 -23");
        // greedy stays at the least base: 0 1 against 2 3 and the value of these is 3:2, -7:20, -4:-6
        due("drawn once", x.drawn(0, 1), 1);
        due("drawn twice", x.drawn(0, 2), 1);
        due("drawn three times", x.drawn(0, 3), 2);
        due("drawn six times", x.drawn(0, 6), 2);
        due("drawn sixty times", x.drawn(0, 60), 10);
        due("drawn by a step between", x.drawn(1, 5), 4);
        due("drawn with a lesser value", x.drawn(2, 3), 2);
        due("drawn with a value far less", x.drawn(3, 3), 3);
        due("X stays", x.count(1), 1);
        due("seed", x.seed(500), true);
        due("drawn by a seed", x.drawn(0, 4), 0);
        due("drawn by a seed", x.drawn(0, 6), 2);
        due("drawn by a seed", x.drawn(0, 60), 19);
        due("X is the seed", x.count(1), 500);
    }

    /** Plain by a text. */
    private static final class PlainOf {
        final Plain plain = new Plain();

        PlainOf(String text) {
            for (int k = 0; k < text.length(); k += 20) {
                int[] w = new int[5];
                for (int i = 0; i < 20 && k + i < text.length(); i++) {
                    w[i / 4] |= text.charAt(k + i) << 24 - 8 * (i % 4);
                }
                plain.feed(w[0], w[1], w[2], w[3], w[4]);
            }
            plain.orders(text.length());
        }
    }

    private static void keeping() {
        PricedBases x = new PricedBases();
        due("undo of nothing", x.undo(), false);
        due("orders", Texts.orders(x, "uniform 0 4 2;price 3 8"), 2);
        x.seed(77);
        due("keep", x.keep(), 0);
        due("orders", Texts.orders(x, "uniform 0 5 2;uniform 1 5 2;price 3 9"), 3);
        x.seed(5);
        x.feed(1, 2, 3, 4, 5);
        due("undo", x.undo(), true);
        due("shelf undone", x.shelf(0, 0), 4);
        due("shelf undone", x.shelf(1, 0), 2);
        due("ranks undone", x.rank(0, 15), 2);
        due("bases undone", x.base(1, 1), 2);
        due("price undone", x.price(3, 1), 8);
        due("X undone", x.count(1), 77);
        due("past undone", x.past(0, 3), 4);
        due("past undone", x.past(1, 0), NONE);
        due("the tape is not undone", x.count(0), 20);
        due("undo again", x.undo(), true);
        due("undone again", x.price(3, 1), 8);
        due("keep anew", x.keep(), 0);
        x.price(3, 50);
        due("undo goes to the latest", x.undo(), true);
        due("undo goes to the latest", x.price(3, 0), 1);
    }

    private static void checks() {
        PricedBases x = with("told 0 8 1 1 0 2 0 128 0");
        due("check of none", x.check(1), -2);
        due("check -1", x.check(-1), -2);
        due("check 0", x.check(0), NONE);
        x.feed(0x01028000, 0, 0, 0, 0);
        due("check beyond the tape", x.check(21), -2);
        due("the tape stays", x.count(0), 20);
        due("check", x.check(3), NONE);
        due("the tape is empty", x.count(0), 0);
        x.feed(0x01028000, 0, 0, 0, 0);
        due("behind the last is nothing", x.check(4), 3);
        x.feed(0x01038000, 0, 0, 0, 0);
        due("the first that is not so", x.check(3), 1);
        x.feed(0x01038000, 0, 0, 0, 0);
        due("check of fewer", x.check(1), NONE);
        x.feed(0x01028000, 0, 0, 0, 0);
        due("check empties for 0 too", x.check(0), NONE);
        due("the tape is empty", x.count(0), 0);
        for (int k = 0; k < 4; k++) {
            x.feed(0, 0, 0, 0, 0);
        }
        due("check 71", x.check(71), -2);
        due("the tape stays", x.count(0), 80);
        due("check 70", x.check(70), 0);
    }
}
