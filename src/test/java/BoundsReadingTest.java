/** Sentences held against readings that stand close by: each test would fail if the other reading were taken. */
public final class BoundsReadingTest extends Bounds {
    private static final String UNLIKE = "told 0 4 2 3 7 12 7";
    private static final String THREE_PAIRS = "told 0 4 2 3 1 12 1 5 3 10 3 6 5 9 5";
    private static final String SNAKE = "told 0 7 3 7 1 21 2 28 3 44 4 100 5 97 6 73 7 74 8 82 9 50 10";
    private static final String LONG_SNAKE = "told 0 8 4 15 1 78 2 204 3 232 4 105 5 89 6 153 7 149 8 150 9 210 10 195 11 163 12 51 13"
        + " 58 14 60 15 116 16";
    private static final String RING = "told 0 5 2 3 5 6 1 12 9 24 -4 17 2";

    public static void main(String[] args) {
        shapes();
        lines();
        sums();
        stairs();
        onto();
        walks();
        kept();
        ofItself();
        oneByOne();
        end();
    }

    private static void shapes() {
        test("promise 10: RANK by BASES, not by taking up ELEMENTS one by one", UNLIKE, x -> {
            due(x.rank(0, 13), 2);
            due(x.rank(0, 14), 2);
        });
        test("promise 12: rising by bits, not by how many ELEMENTS", "graph 0 5 4 0 1 1 2 0 2 2 3 2 3", x -> {
            due(x.circuit(0, 0), 7);
            due(x.circuit(0, 1), 24);
        });
        test("promise 25: a row of CIRCUITS of two ELEMENTS", "told 0 7 5 87 0 103 0 110 0", x -> {
            int[] due = {0, 1, 2, 0, 0, 0, 6};
            for (int e = 0; e < 7; e++) {
                due(x.component(0, e), due[e]);
            }
        });
        test("promise 25: CIRCUITS far from one another", "told 0 8 4 83 0 86 0 99 0 153 0 156 0", x -> {
            for (int e = 0; e < 8; e++) {
                due(x.component(0, e), 0);
            }
        });
        test("promise 36: the most steps are not from the least BASE", "told 0 5 2 6 0 3 0 9 0 24 0", x -> due(x.beside(0, 1), 3));
    }

    /** Four ELEMENTS of which each two and all raise the RANK of a SET by two. */
    private static void lines() {
        test("promise 32: BINARY without THE LAW", UNLIKE, x -> {
            due(x.shelf(0, 8), 0);
            due(x.binary(0), 1);
        });
        test("promise 32: a SET of a RANK far below r, where THE LAW does not hold",
            "told 0 7 3 19 0 28 0 37 0 42 0 73 0 70 0 112 0", x -> due(x.binary(0), 0));
    }

    private static void sums() {
        test("promise 13: more steps than ELEMENTS in a BASE", "told 0 7 2 3 1 6 2 12 3 24 4 48 5 96 6", x -> {
            due(x.greedy(0, 3, 0), 96);
            due(x.greedy(0, 3, 2), 5);
        });
        test("promise 13: more steps than ELEMENTS", SNAKE, x -> {
            due(x.greedy(0, 7, 0), 50);
            due(x.greedy(0, 7, 1), 10);
            due(x.greedy(0, 7, 2), 9);
            due(x.greedy(0, 28, 2), 7);
        });
        test("promise 13: fifteen steps", LONG_SNAKE, x -> {
            due(x.greedy(0, 15, 0), 116);
            due(x.greedy(0, 15, 2), 15);
            due(x.arrive(0), 16);
        });
        test("promise 13: no BASE has a greater SUM, some have as great ones", "uniform 0 4 2", x -> {
            due(x.greedy(0, 12, 0), 12);
            due(x.greedy(0, 12, 3), 1);
        });
        test("promise 14: any of INITIAL will do", "uniform 0 4 2", x -> due(x.arrive(0), 6));
        test("promise 39: any BASE of the greatest SUM will do", "told 0 5 2 6 1 10 2 17 3 20 3", x -> due(x.drawn(0, 60), 55));
        test("promise 18: SETS in no BASE are in no space", "told 0 3 2 3 0", x -> {
            due(x.spanned(0, 0), 2);
            due(x.spanned(0, 1), 2);
        });
    }

    private static void stairs() {
        test("promise 29: of all STAIRS, those of more steps than at least, too", "told 0 5 2 3 5 5 1 12 5 17 4 24 4", x -> {
            due(x.stairs(0, 3, 12, 0), 2);
            due(x.stairs(0, 3, 12, 1), 4);
        });
        test("promise 29: more steps than ELEMENTS", SNAKE, x -> {
            due(x.stairs(0, 7, 50, 0), 9);
            due(x.stairs(0, 7, 50, 1), 1);
            due(x.stairs(0, 82, 28, 0), 6);
            due(x.stairs(0, 82, 28, 1), 3);
        });
        test("promise 36: more steps than ELEMENTS", SNAKE, x -> {
            due(x.beside(0, 0), 9);
            due(x.beside(0, 1), 9);
            due(x.beside(0, 2), 21);
            due(x.beside(0, 3), 2);
        });
        test("promise 36: fifteen steps", LONG_SNAKE, x -> {
            due(x.beside(0, 0), 15);
            due(x.beside(0, 1), 15);
            due(x.beside(0, 2), 51);
        });
        test("promise 29: of all STAIRS, those that take up again what they gave up", "told 0 7 3 7 9 11 8 25 7 56 3 52 6 100 9", x -> {
            due(x.stairs(0, 7, 100, 0), 5);
            due(x.stairs(0, 7, 100, 1), 3);
            due(x.stairs(0, 7, 25, 1), 7);
        });
    }

    private static void onto() {
        test("promise 31: VALUES count, not only which SETS are BASES", THREE_PAIRS, x -> {
            due(x.onto(0, 0, 0), 4);
            due(x.onto(0, 0, 4), 3);
        });
        test("promise 31: the first row by which VALUES are alike", THREE_PAIRS + ";told 1 4 2 3 3 12 3 5 1 10 1 6 5 9 5", x -> {
            due(x.onto(0, 1, 0), 4);
            due(x.onto(0, 1, 1), 0);
            due(x.onto(0, 1, 2), 2);
            due(x.onto(0, 1, 3), 1);
            due(x.onto(0, 1, 4), 3);
        });
        test("promise 31: none, each ELEMENT being in as many BASES of each VALUE",
            "told 0 6 2 3 1 5 2 6 1 9 2 10 2 12 1 17 2 18 2 20 2 24 1 33 1 34 2 36 2 40 2 48 1;"
            + "told 1 6 2 3 1 5 1 6 1 9 2 10 2 12 2 17 2 18 2 20 2 24 1 33 2 34 2 36 2 40 1 48 1", x -> {
                due(x.onto(0, 1, 0), 0);
                due(x.onto(0, 1, 1), -2);
                due(x.onto(0, 0, 0), 12);
                due(x.onto(1, 1, 0), 72);
            });
    }

    private static void walk(String named, String text, int seed, int n, int last, int went) {
        test("promise 38: " + named, text, x -> {
            due(x.seed(seed), true);
            due(x.walk(0, n, 0), last);
            due(x.walk(0, n, 1), went);
        });
    }

    private static void walks() {
        walk("from the least BASE, not that of the greatest VALUE", "told 0 2 1 1 0 2 5", 1, 1, 2, 1);
        walk("it goes on to a lesser VALUE, too", "told 0 2 1 1 5 2 0", 1, 1, 2, 1);
        walk("a ring of five BASES, 4 times", RING, 1, 4, 3, 0);
        walk("a ring of five BASES, 5 times", RING, 1, 5, 6, 1);
        walk("a ring of five BASES, 6 times", RING, 1, 6, 6, 1);
        walk("a ring of five BASES, 12 times", RING, 1, 12, 17, 6);
        walk("a ring of five BASES, 20 times", RING, 1, 20, 17, 8);
        walk("a ring of five BASES, 20 times by another SEED", RING, 7, 20, 24, 5);
    }

    private static void kept() {
        test("promise 42: keep changes nothing", "uniform 1 4 2;price 2 9;told 3 3 1 2 5", x -> {
            x.seed(5);
            due(x.keep(), 0);
            due(x.past(0, 0), 3);
            due(x.past(1, 2), 6);
            due(x.past(2, 0), NONE);
            due(x.count(1), 5);
            due(x.value(3, 2), 5);
            due(x.price(2, 0), 9);
        });
    }

    /** A SHELF becomes what another one would become by the same. */
    private static void ofItself() {
        String three = "told 0 4 2 3 1 5 2 9 3 6 4 10 5 12 9;told 1 4 1 1 7 4 -3;price 1 6;price 3 -2;";
        String[] behind = {"dual S 0", "without S 0 1", "by S 0 3", "shift S 0", "cut S 0", "initial S 0", "raise S 0", "plus S 0 1",
            "plus S 1 0", "plus S 0 0", "join S 0 1", "join S 1 0"};
        for (String clause : behind) {
            test("promise 3: a SHELF made of itself: " + clause, three + clause.replace('S', '2'), x -> {
                String want = told(x, 2);
                due(Texts.orders(x, clause.replace('S', '0')), 1);
                due("told 2" + told(x, 0).substring(6), want);
            });
        }
        test("promise 3: a SHELF made of itself alone", "told 0 2 1 1 3 2 4;join 0 0 0", "told 0 3 1 1 3 2 4 4 5;join 0 0 0",
            "told 0 3 2 3 7 5 8 6 9");
    }

    /** The first text's clauses but the last are done, the last is refused; behind it the second text's are done. */
    private static void test(String named, String refused, String text, String want) {
        test(named, x -> {
            due(Texts.orders(x, refused), Texts.clauses(refused) - 1);
            due(Texts.orders(x, text), Texts.clauses(text));
            due(told(x, 0), want);
        });
    }

    private static void oneByOne() {
        test("promise 3: shift goes by PRICES as they are then", "price 0 5;shift 1 0;price 0 9;shift 2 0", x -> {
            due(x.value(1, 1), 5);
            due(x.value(2, 1), 9);
        });
        test("promise 3: initial goes by PRICES as they are then", "price 0 5;initial 1 0;price 0 -5;initial 2 0", x -> {
            due(told(x, 1), "told 1 2 1 1 0");
            due(told(x, 2), "told 2 2 1 2 0");
        });
        test("promise 3: what a SHELF was made of may change behind", "uniform 0 4 2;dual 1 0;uniform 0 3 1", x -> {
            due(x.shelf(1, 0), 4);
            due(x.shelf(1, 2), 6);
        });
        test("promise 4: a PRICE changes no VALUE", "told 0 2 1 1 3 2 4;price 0 7", x -> {
            due(x.value(0, 1), 3);
            due(x.shelf(0, 4), 2);
            due(x.shelf(0, 3), 4);
        });
    }
}
