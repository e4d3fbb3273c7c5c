/** Promises 37 to 44 at their bounds: what was, walks, draws, THE SEED, what is kept and undone, CHECK. */
public final class BoundsTimeTest extends Bounds {
    private static final String TEN = "uniform 0 3 1;uniform 1 4 1;uniform 2 5 1;uniform 3 6 1;uniform 0 7 1;uniform 1 8 1;"
        + "uniform 2 3 1;uniform 3 4 1;uniform 0 5 1;uniform 1 6 1";

    public static void main(String[] args) {
        past();
        whatIsNoPast();
        walks();
        draws();
        seeds();
        counts();
        kept();
        undone();
        checks();
        end();
    }

    private static void past(PricedBases x, int k, int... want) {
        for (int what = 0; what < 4; what++) {
            due(x.past(k, what), want[what]);
        }
    }

    private static void past() {
        test("promise 37: one", "uniform 3 4 2", x -> {
            past(x, 0, 3, 2, 6, 4);
            due(x.past(1, 0), NONE);
        });
        test("promise 37: the same SHELF as it was", "told 0 2 1 1 0 2 0", x -> past(x, 0, 0, 2, 2, 2));
        test("promise 37: the latest is the first", "uniform 0 4 2;uniform 2 8 4;dual 0 2", x -> {
            past(x, 0, 0, 6, 70, 8);
            past(x, 1, 2, 2, 70, 8);
            past(x, 2, 0, 2, 6, 4);
            due(x.past(3, 0), NONE);
        });
        test("promise 37: nineteen", TEN, x -> {
            due(Texts.orders(x, TEN.substring(TEN.indexOf(';') + 1)), 9);
            past(x, 18, 0, 2, 3, 3);
            due(x.past(19, 0), NONE);
        });
        test("promise 37: twenty", TEN, x -> {
            due(Texts.orders(x, TEN), 10);
            past(x, 19, 0, 2, 3, 3);
            due(x.past(20, 0), NONE);
        });
        test("promise 37: of twenty-one the first is gone", TEN, x -> {
            due(Texts.orders(x, TEN + ";uniform 3 7 1"), 11);
            past(x, 0, 3, 4, 7, 7);
            past(x, 19, 1, 2, 4, 4);
            due(x.past(20, 0), NONE);
        });
        test("promise 37: of forty the latest twenty", TEN, x -> {
            for (int k = 0; k < 3; k++) {
                due(Texts.orders(x, TEN), 10);
            }
            past(x, 0, 1, 8, 6, 6);
            past(x, 10, 1, 8, 6, 6);
            past(x, 19, 0, 5, 3, 3);
            due(x.past(20, 0), NONE);
        });
    }

    private static void whatIsNoPast() {
        test("promise 37: price is none", "price 0 5;price 1 6", x -> due(x.past(0, 0), NONE));
        test("promise 37: a refused CLAUSE is none", x -> {
            due(Texts.orders(x, "cut 0 0"), 0);
            due(x.past(0, 0), NONE);
        });
        test("promise 37: a FAULT is none", x -> {
            Texts.orders(x, "uniform 0 4 2;");
            due(x.past(0, 0), NONE);
        });
        test("promise 37: CLAUSES ahead of a refused one are", x -> {
            due(Texts.orders(x, "uniform 1 4 2;cut 0 0;uniform 2 4 2"), 1);
            past(x, 0, 1, 2, 6, 4);
            due(x.past(1, 0), NONE);
        });
        test("promise 37: undo is none", "uniform 1 4 2", x -> {
            x.keep();
            x.undo();
            due(x.past(1, 0), NONE);
        });
    }

    private static void walk(String named, String text, int seed, int n, int last, int went) {
        test("promise 38: " + named, text, x -> {
            due(x.seed(seed), true);
            due(x.walk(0, n, 0), last);
            due(x.walk(0, n, 1), went);
        });
    }

    private static void walks() {
        walk("one step of two ELEMENTS", "", 1, 1, 2, 1);
        walk("two steps of two ELEMENTS", "", 1, 2, 1, 2);
        walk("1000 steps of two ELEMENTS", "", 1, 1000, 1, 1000);
        walk("by the least SEED", "uniform 0 4 2", 0, 1, 5, 1);
        walk("by the greatest SEED", "uniform 0 4 2", 65535, 1, 10, 1);
        walk("by the greatest SEED, 1000 steps", "uniform 0 4 2", 65535, 1000, 12, 1000);
        walk("X modulo 3 and 5", "uniform 0 8 3", 1, 3, 164, 3);
        walk("X modulo 3 and 5, 1000 steps", "uniform 0 8 3", 1, 1000, 50, 1000);
        walk("X modulo 5 and 3", "uniform 0 8 5", 1, 2, 217, 2);
        walk("X modulo 5 and 3, 1000 steps", "uniform 0 8 5", 1, 1000, 155, 1000);
        walk("X modulo 7 and 1", "uniform 0 8 7", 1, 1000, 254, 1000);
        walk("X modulo 1 and 7", "uniform 0 8 1", 1, 2, 4, 2);
        walk("one BASE is never left", "told 0 8 3 7 0", 1, 1000, 7, 0);
        walk("it stays where it would come to no BASE", "told 0 4 2 3 4 9 -6", 1, 3, 3, 0);
        test("promise 38: each WALK begins from X as it is", "uniform 0 4 2", x -> {
            due(x.walk(0, 3, 0), 10);
            due(x.walk(0, 2, 0), 12);
            due(x.walk(0, 3, 0), 10);
            due(x.count(1), 1);
        });
    }

    private static void drawn(String named, String text, int... timesAndAnswers) {
        for (int k = 0; k < timesAndAnswers.length; k += 2) {
            int n = timesAndAnswers[k];
            int want = timesAndAnswers[k + 1];
            test("promise 39: " + named + ", " + n + " times", text, x -> due(x.drawn(0, n), want));
        }
    }

    /** PRICES are -6 9 5 -8 8 -3 1 3 first, then 0 -7 5 10 -1 3 -9 -8, then -9 5 -6 -5 -8 8 6 6. */
    private static void draws() {
        drawn("of two ELEMENTS", "", 1, 1, 60, 60);
        drawn("of four ELEMENTS", "told 0 4 2 3 0 12 5", 1, 1, 2, 1, 3, 2, 60, 10);
        drawn("of eight, far less behind", "told 0 8 4 15 0 240 -30", 1, 1, 2, 2, 10, 9, 60, 56);
        drawn("of eight, less behind", "told 0 8 4 15 0 240 -7", 1, 0, 2, 1, 3, 1, 10, 6, 60, 32);
        drawn("of eight, like ones", "told 0 8 4 15 0 240 0", 10, 4, 60, 28);
        drawn("of eight, more behind", "told 0 8 4 15 0 240 7", 10, 3, 60, 18);
        drawn("of eight in turn, like ones", "told 0 8 4 85 0 170 0", 1, 1, 2, 1, 60, 26);
        drawn("of eight in turn, one more", "told 0 8 4 85 0 170 1", 60, 25);
        drawn("of the first SUM as great as the other", "told 0 4 2 3 0 12 6", 1, 1);
        drawn("of the first SUM one less", "told 0 4 2 3 0 12 7", 1, 0);
        drawn("one BASE", "told 0 8 7 254 5", 1, 1, 60, 60);
        test("promise 39: by the least SEED", "told 0 4 2 3 0 12 5", x -> {
            x.seed(0);
            due(x.drawn(0, 1), 0);
            due(x.drawn(0, 2), 1);
            due(x.drawn(0, 60), 19);
        });
        test("promise 39: by the greatest SEED", "told 0 4 2 3 0 12 5", x -> {
            x.seed(65535);
            due(x.drawn(0, 1), 0);
            due(x.drawn(0, 2), 1);
            due(x.drawn(0, 60), 18);
        });
        test("promise 39: X stays as it was", "told 0 4 2 3 0 12 5", x -> {
            due(x.drawn(0, 60), 10);
            due(x.count(1), 1);
            due(x.drawn(0, 60), 10);
        });
        test("promise 39: PRICES stay, and are not asked", "told 0 4 2 3 0 12 5;price 0 900;price 7 -900", x -> {
            due(x.drawn(0, 60), 10);
            due(x.price(0, 0), 900);
            due(x.price(7, 0), -900);
            due(x.price(1, 0), 0);
        });
    }

    private static void seeds() {
        for (int seed : new int[] {0, 1, 65534, 65535}) {
            test("promise 40: THE SEED " + seed + " is X, too", x -> {
                due(x.seed(seed), true);
                due(x.count(1), seed);
            });
        }
        test("promise 40: a refused SEED leaves X", x -> {
            x.seed(77);
            due(x.seed(65536), false);
            due(x.seed(-1), false);
            due(x.count(1), 77);
        });
    }

    private static void counts() {
        test("promise 41: BASES of all SHELVES at first", x -> due(x.count(2), 8));
        test("promise 41: BASES of all SHELVES, the most", "uniform 0 8 4;uniform 1 8 4;uniform 2 8 4;uniform 3 8 4", x -> due(x.count(2), 280));
        test("promise 41: BASES of all SHELVES, the fewest", "told 0 2 1 1 0;told 1 2 1 1 0;told 2 2 1 1 0;told 3 2 1 1 0",
            x -> due(x.count(2), 4));
        test("promise 41: bytes of the full tape", x -> {
            for (int k = 0; k < 12; k++) {
                x.feed(0, 0, 0, 0, 0);
            }
            due(x.count(0), 240);
        });
    }

    private static void kept() {
        test("promise 42: keep tells 0", x -> due(x.keep(), 0));
        test("promise 42: keep tells 0 again", "uniform 0 4 2", x -> {
            x.keep();
            due(x.keep(), 0);
        });
        test("promise 42: what was KEPT last", x -> {
            x.keep();
            Texts.orders(x, "uniform 0 4 2");
            x.keep();
            Texts.orders(x, "uniform 0 5 2");
            due(x.undo(), true);
            due(x.shelf(0, 0), 4);
        });
        test("promise 42: what is done behind it does not change what is KEPT", "uniform 1 4 2;price 2 9", x -> {
            x.keep();
            Texts.orders(x, "told 1 4 2 3 5;price 2 8");
            x.seed(5);
            x.undo();
            due(x.shelf(1, 2), 6);
            due(x.value(1, 3), 0);
            due(x.count(1), 1);
            due(x.price(2, 0), 9);
        });
        test("promise 42: keep leaves the tape", x -> {
            Texts.feed(x, "price 3 4");
            x.keep();
            due(x.count(0), 20);
            due(x.orders(9), 1);
        });
    }

    private static void undone() {
        test("promise 43: nothing was KEPT", "uniform 0 4 2", x -> {
            due(x.undo(), false);
            due(x.shelf(0, 0), 4);
        });
        test("promise 43: all SHELVES", "uniform 0 3 1;uniform 1 4 2;uniform 2 5 3;uniform 3 6 4", x -> {
            x.keep();
            Texts.orders(x, "told 0 2 1 1 7;told 1 2 1 1 7;told 2 2 1 1 7;told 3 2 1 1 7");
            due(x.undo(), true);
            int[] bases = {3, 6, 10, 15};
            for (int s = 0; s < 4; s++) {
                due(x.shelf(s, 0), s + 3);
                due(x.shelf(s, 1), s + 1);
                due(x.shelf(s, 2), bases[s]);
                due(x.rank(s, (1 << s + 3) - 1), s + 1);
                due(x.base(s, bases[s] - 1), (1 << s + 3) - 4);
            }
        });
        test("promise 43: all PRICES", "price 0 -1;price 7 7", x -> {
            x.keep();
            for (int e = 0; e < 8; e++) {
                x.price(e, 100);
            }
            due(x.undo(), true);
            due(x.price(0, 0), -1);
            due(x.price(7, 0), 7);
            due(x.price(1, 0), 0);
        });
        test("promise 43: X", x -> {
            x.seed(65535);
            x.keep();
            x.seed(0);
            due(x.undo(), true);
            due(x.count(1), 65535);
        });
        test("promise 43: PAST, none", x -> {
            x.keep();
            Texts.orders(x, "uniform 0 4 2");
            due(x.undo(), true);
            due(x.past(0, 0), NONE);
        });
        test("promise 43: PAST, twenty", TEN, x -> {
            Texts.orders(x, TEN);
            x.keep();
            Texts.orders(x, TEN);
            due(x.undo(), true);
            past(x, 19, 0, 2, 3, 3);
            past(x, 0, 1, 8, 6, 6);
            due(x.past(20, 0), NONE);
        });
        test("promise 43: PAST goes on from what was KEPT", "uniform 0 4 2", x -> {
            x.keep();
            Texts.orders(x, "uniform 0 5 2;uniform 0 6 2");
            x.undo();
            Texts.orders(x, "uniform 0 7 1");
            past(x, 0, 0, 6, 7, 7);
            past(x, 1, 0, 2, 6, 4);
            due(x.past(2, 0), NONE);
        });
        test("promise 43: the tape is not KEPT", x -> {
            Texts.feed(x, "price 3 4");
            x.keep();
            x.feed(0, 0, 0, 0, 0);
            due(x.undo(), true);
            due(x.count(0), 40);
            due(x.orders(9), 1);
            x.undo();
            due(x.count(0), 0);
        });
        test("promise 43: undone again", "price 3 4", x -> {
            x.keep();
            x.price(3, 5);
            due(x.undo(), true);
            x.price(3, 6);
            due(x.undo(), true);
            due(x.price(3, 0), 4);
        });
        test("promise 43: what is done behind undo does not change what is KEPT", "uniform 1 4 2", x -> {
            x.keep();
            x.undo();
            Texts.orders(x, "uniform 1 5 2");
            x.seed(9);
            due(x.undo(), true);
            due(x.shelf(1, 0), 4);
            due(x.count(1), 1);
        });
    }

    private static int check(PricedBases x, int n, int... bytes) {
        StringBuilder text = new StringBuilder();
        for (int b : bytes) {
            text.append((char) b);
        }
        Texts.feed(x, text.toString());
        return x.check(n);
    }

    /** The bytes of the seventy BASES of four of eight. */
    private static int[] seventy() {
        int[] bytes = new int[70];
        int size = 0;
        for (int set = 0; set < 256; set++) {
            if (Integer.bitCount(set) == 4) {
                bytes[size++] = set;
            }
        }
        return bytes;
    }

    /** The BASES of two of four, then others. */
    private static int[] sixAhead() {
        int[] bytes = seventy();
        System.arraycopy(new int[] {3, 5, 6, 9, 10, 12}, 0, bytes, 0, 6);
        return bytes;
    }

    private static void checks() {
        test("promise 44: no bytes of an empty tape are right", x -> due(x.check(0), NONE));
        test("promise 44: one byte of an empty tape", x -> due(x.check(1), -2));
        test("promise 44: all BASES", x -> due(check(x, 2, 1, 2), NONE));
        test("promise 44: BASES ahead of others", x -> due(check(x, 1, 1), NONE));
        test("promise 44: behind the last BASE nothing is", x -> due(check(x, 3, 1, 2, 4), 2));
        test("promise 44: behind the last BASE not even 0 is", x -> due(check(x, 3, 1, 2, 0), 2));
        test("promise 44: the first is not so", x -> due(check(x, 2, 2, 1), 0));
        test("promise 44: the last is not so", x -> due(check(x, 2, 1, 3), 1));
        test("promise 44: the first of two that are not so", "uniform 0 4 1", x -> due(check(x, 4, 1, 3, 4, 9), 1));
        test("promise 44: all seventy", "uniform 0 8 4", x -> due(check(x, 70, seventy()), NONE));
        test("promise 44: the seventieth is not so", "uniform 0 8 4", x -> {
            int[] bytes = seventy();
            bytes[69]--;
            due(check(x, 70, bytes), 69);
        });
        test("promise 44: seventy bytes and six BASES", "uniform 0 4 2", x -> due(check(x, 70, sixAhead()), 6));
        test("promise 44: it is SHELF 0", "uniform 1 4 1;uniform 2 4 1;uniform 3 4 1", x -> due(check(x, 3, 1, 2, 4), 2));
        test("promise 44: the tape is empty then, all being right", x -> {
            check(x, 2, 1, 2);
            due(x.count(0), 0);
        });
        test("promise 44: the tape is empty then, one being not so", x -> {
            check(x, 2, 9, 9);
            due(x.count(0), 0);
        });
        test("promise 44: the tape is empty then, none being asked", x -> {
            due(check(x, 0, 1, 2), NONE);
            due(x.count(0), 0);
        });
        test("promise 44: the tape stays when it has not so many", x -> {
            Texts.feed(x, "price 3 4");
            due(x.check(21), -2);
            due(x.count(0), 20);
            due(x.orders(9), 1);
        });
        test("promise 44: the tape stays when there is no such n", x -> {
            Texts.feed(x, "price 3 4".repeat(9));
            due(x.check(71), -2);
            due(x.check(-1), -2);
            due(x.count(0), 100);
            due(x.orders(9), 1);
        });
    }
}
