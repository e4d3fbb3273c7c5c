/** Promises 5 to 36 at the bounds of what they tell: none, one, all, like ones, the least and the greatest. */
public final class BoundsAnswerTest extends Bounds {
    private static final String UNLIKE = "told 0 4 2 3 7 12 7";
    private static final String LOOPS = "told 0 8 1 1 5";
    private static final String BRIDGES = "told 0 8 7 127 5";
    private static final String SEVENTY = "uniform 0 8 4";
    private static final String LIKE = "uniform 0 4 2;price 1 5;price 2 5;price 3 5";

    public static void main(String[] args) {
        shelves();
        law();
        exchanges();
        ranks();
        circuits();
        greedy();
        initial();
        space();
        spanned();
        common();
        potentials();
        together();
        tutte();
        shares();
        components();
        quotients();
        gaps();
        stairs();
        told();
        onto();
        binary();
        shared();
        games();
        far();
        beside();
        seventyBases();
        minusOne();
        oneAfterTheOther();
        end();
    }

    /** SHELF 0, what 0 to 12. */
    private static void shelf(String named, String text, int... want) {
        for (int k = 0; k < want.length; k++) {
            int what = k;
            test("promise 5: " + named + ", what " + k, text, x -> due(x.shelf(0, what), want[what]));
        }
    }

    private static void shelves() {
        shelf("the smallest SHELF", "", 2, 1, 2, 0, 1, 0, 0, 1, 1, 3, 2, 1, 0);
        shelf("the SHELF of seventy BASES", SEVENTY, 8, 4, 70, 0, 15, 0, 0, 1, 1, 163, 94, 56, 0);
        shelf("one BASE of one ELEMENT", LOOPS, 8, 1, 1, 5, 1, 254, 1, 1, 1, 2, 2, 7, 0);
        shelf("one BASE of all ELEMENTS but one", BRIDGES, 8, 7, 1, 5, 127, 128, 127, 1, 1, 128, 128, 1, 0);
        shelf("BASES without THE LAW", UNLIKE, 4, 2, 2, 7, 3, 0, 0, 0, 0, 7, 6, 4, 4);
        shelf("the greatest VALUE below 0, twice", "told 0 3 1 1 -5 2 -3 4 -3", 3, 1, 3, -3, 2, 0, 0, 1, 1, 4, 2, 3, 0);
        shelf("VALUES at both bounds", "told 0 2 1 1 -1000000 2 1000000", 2, 1, 2, 1000000, 2, 0, 0, 1, 1, 3, 2, 1, 0);
        shelf("all VALUES the least", "told 0 2 1 1 -1000000 2 -1000000", 2, 1, 2, -1000000, 1, 0, 0, 1, 1, 3, 2, 1, 0);
        shelf("all VALUES the greatest", "told 0 2 1 2 1000000 1 1000000", 2, 1, 2, 1000000, 1, 0, 0, 1, 1, 3, 2, 1, 0);
    }

    /** The greatest two of the three sums over four ELEMENTS must be alike. */
    private static void law() {
        test("promise 5: VALUES no less are enough for THE LAW", "told 0 4 2 3 1 12 1 5 1 10 1 6 0 9 0", x -> due(x.shelf(0, 7), 1));
        shelf("VALUES one less are not", "told 0 4 2 3 1 12 1 5 1 10 0 6 0 9 0", 4, 2, 6, 1, 3, 0, 0, 0, 1, 11, 6, 4, 4);
        test("promise 5: THE LAW over VALUES at both bounds", "told 0 4 2 3 1000000 12 1000000 5 -1000000 10 -1000000 6 1000000 9 1000000",
            x -> due(x.shelf(0, 12), 0));
        test("promise 5: FAULTS over VALUES at both bounds", "told 0 4 2 3 1000000 12 1000000 5 -1000000 10 -1000000 6 1000000 9 999999",
            x -> due(x.shelf(0, 12), 4));
        int[][] faults = {{3, 12, 0}, {3, 12, 1}, {12, 3, 2}, {12, 3, 3}, {12, 17, 2}, {12, 17, 3}, {17, 12, 0}, {17, 12, 4}};
        for (int k = 0; k < faults.length; k++) {
            int at = k;
            test("promise 8: FAULTS by A, then B, then i, rising: " + k, "told 0 5 2 3 0 12 0 17 0", x -> {
                for (int what = 0; what < 3; what++) {
                    due(x.fault(0, at, what), faults[at][what]);
                }
            });
        }
        test("promise 8: as many FAULTS as told", "told 0 5 2 3 0 12 0 17 0", x -> {
            due(x.shelf(0, 12), 8);
            due(x.fault(0, 8, 0), -4);
        });
    }

    private static void exchanges() {
        test("promise 9: the least j", SEVENTY, x -> due(x.exchange(0, 240, 15, 4), 0));
        test("promise 9: the only j is the last ELEMENT", SEVENTY, x -> due(x.exchange(0, 15, 142, 0), 7));
        test("promise 9: the least j that VALUES let", "told 0 4 2 3 1 12 1 5 1 10 1 6 0 9 0", x -> {
            due(x.exchange(0, 3, 12, 0), 3);
            due(x.exchange(0, 3, 12, 1), 2);
        });
        test("promise 9: VALUES one less do not do", "told 0 4 2 3 1 12 1 5 1 10 0 6 0 9 0", x -> due(x.exchange(0, 3, 12, 0), -2));
        test("promise 9: one of the two is no BASE", "told 0 4 2 3 0 12 0 6 0 5 0", x -> {
            due(x.exchange(0, 3, 12, 0), -2);
            due(x.exchange(0, 3, 12, 1), -2);
        });
        test("promise 9: BASES unlike by one ELEMENT", "told 0 3 2 3 -5 6 9", x -> due(x.exchange(0, 3, 6, 0), 2));
    }

    private static void ranks() {
        test("promise 10: RANK of the empty SET", LOOPS, x -> due(x.rank(0, 0), 0));
        test("promise 10: RANK of all LOOPS", LOOPS, x -> due(x.rank(0, 254), 0));
        test("promise 10: RANK of all ELEMENTS is r", SEVENTY, x -> due(x.rank(0, 255), 4));
        test("promise 10: RANK of all BRIDGES is r", BRIDGES, x -> due(x.rank(0, 127), 7));
        test("promise 10: RANK of one more than r", SEVENTY, x -> due(x.rank(0, 31), 4));
        test("promise 10: RANK of one less than r", SEVENTY, x -> due(x.rank(0, 112), 3));
        test("promise 10: RANK where THE LAW does not hold", UNLIKE, x -> {
            due(x.rank(0, 5), 1);
            due(x.rank(0, 7), 2);
        });
        test("promise 11: CLOSURE of the empty SET: LOOPS", LOOPS, x -> due(x.closure(0, 0), 254));
        test("promise 11: CLOSURE of the empty SET: none", SEVENTY, x -> due(x.closure(0, 0), 0));
        test("promise 11: CLOSURE of all", LOOPS, x -> due(x.closure(0, 255), 255));
        test("promise 11: CLOSURE of a BASE", SEVENTY, x -> due(x.closure(0, 15), 255));
        test("promise 11: CLOSURE of one less than a BASE", SEVENTY, x -> due(x.closure(0, 14), 14));
        test("promise 11: CLOSURE is with all that do not raise the RANK of the SET itself", UNLIKE, x -> {
            due(x.closure(0, 1), 13);
            due(x.closure(0, 13), 15);
        });
    }

    private static void circuits() {
        test("promise 12: LOOPS are CIRCUITS", LOOPS, x -> {
            due(x.circuit(0, 0), 2);
            due(x.circuit(0, 6), 128);
            due(x.circuit(0, 7), -4);
        });
        test("promise 12: the only CIRCUIT is a LOOP", BRIDGES, x -> {
            due(x.circuit(0, 0), 128);
            due(x.circuit(0, 1), -4);
        });
        test("promise 12: all ELEMENTS are the only CIRCUIT", "uniform 0 8 7", x -> {
            due(x.circuit(0, 0), 255);
            due(x.circuit(0, 1), -4);
        });
        test("promise 12: CIRCUITS rise by bits", "told 0 4 2 3 4 9 -6", x -> {
            due(x.circuit(0, 0), 4);
            due(x.circuit(0, 1), 10);
            due(x.circuit(0, 2), -4);
        });
        test("promise 12: CIRCUITS where THE LAW does not hold", UNLIKE, x -> {
            due(x.circuit(0, 0), 5);
            due(x.circuit(0, 3), 10);
        });
        test("promise 12: the last of many CIRCUITS", SEVENTY, x -> {
            due(x.circuit(0, 55), 248);
            due(x.circuit(0, 56), -4);
        });
    }

    private static void greedy() {
        test("promise 13: a SUM no greater is not gone to", LIKE, x -> {
            due(x.greedy(0, 10, 0), 10);
            due(x.greedy(0, 10, 2), 0);
        });
        test("promise 13: a SUM one greater is gone to", "told 0 2 1 1 4 2 5", x -> due(x.greedy(0, 1, 2), 1));
        test("promise 13: a SUM as great is not", "told 0 2 1 1 5 2 5", x -> due(x.greedy(0, 1, 2), 0));
        test("promise 13: of like ones the least", LIKE, x -> {
            due(x.greedy(0, 3, 0), 6);
            due(x.greedy(0, 9, 0), 10);
        });
        test("promise 13: the greatest beside, not the first that is greater", "told 0 4 2 3 0 5 1 6 2 9 3 10 9", x -> {
            due(x.greedy(0, 3, 0), 10);
            due(x.greedy(0, 3, 2), 1);
        });
        test("promise 13: it takes up ELEMENT 0", "uniform 0 4 2;price 0 5", x -> {
            due(x.greedy(0, 12, 0), 5);
            due(x.greedy(0, 12, 2), 1);
        });
        test("promise 13: it takes up the last ELEMENT", "uniform 0 8 1;price 7 5", x -> due(x.greedy(0, 1, 0), 128));
        test("promise 13: it gives up ELEMENT 0", "uniform 0 4 2;price 0 -5", x -> due(x.greedy(0, 3, 0), 6));
        test("promise 13: as many steps as ELEMENTS in a BASE", "uniform 0 8 4;price 4 1;price 5 2;price 6 3;price 7 4", x -> {
            due(x.greedy(0, 15, 0), 240);
            due(x.greedy(0, 15, 1), 10);
            due(x.greedy(0, 15, 2), 4);
        });
        test("promise 13: it is no BASE of the greatest SUM", UNLIKE + ";price 0 -1", x -> {
            due(x.greedy(0, 3, 0), 3);
            due(x.greedy(0, 3, 1), 6);
            due(x.greedy(0, 3, 3), 0);
        });
        test("promise 13: a BASE of a SUM as great as the greatest", UNLIKE, x -> due(x.greedy(0, 3, 3), 1));
        test("promise 13: the one BASE", "told 0 2 1 2 -1000000;price 1 -1000", x -> {
            due(x.greedy(0, 2, 0), 2);
            due(x.greedy(0, 2, 1), -1001000);
            due(x.greedy(0, 2, 2), 0);
            due(x.greedy(0, 2, 3), 1);
        });
        test("promise 13: the greatest SUM there is", "told 0 8 7 254 1000000;price 1 1000;price 2 1000;price 3 1000;price 4 1000;"
            + "price 5 1000;price 6 1000;price 7 1000", x -> due(x.greedy(0, 254, 1), 1007000));
        test("promise 14: from all BASES", SEVENTY, x -> due(x.arrive(0), 70));
        test("promise 14: from the one BASE", LOOPS, x -> due(x.arrive(0), 1));
        test("promise 14: from BASES of INITIAL alone", UNLIKE + ";price 0 -1", x -> due(x.arrive(0), 1));
        test("promise 14: each BASE is of INITIAL", UNLIKE, x -> due(x.arrive(0), 2));
    }

    private static void initial() {
        test("promise 15: all BASES", SEVENTY, x -> {
            due(x.initial(0, 0), 70);
            due(x.initial(0, 10 + 69), 240);
            due(x.initial(0, 10 + 70), -4);
        });
        test("promise 15: one BASE", LOOPS, x -> {
            due(x.initial(0, 0), 1);
            due(x.initial(0, 1), 5);
            due(x.initial(0, 2), 1);
            due(x.initial(0, 10), 1);
            due(x.initial(0, 11), -4);
        });
        test("promise 15: SUMS below 0", "told 0 2 1 1 -5 2 -9;price 1 3", x -> {
            due(x.initial(0, 0), 1);
            due(x.initial(0, 1), -5);
        });
        test("promise 15: like SUMS by unlike VALUES", "told 0 2 1 1 -5 2 -9;price 1 4", x -> due(x.initial(0, 0), 2));
        test("promise 15: THE LAW with 0 for them alone does not hold", UNLIKE, x -> due(x.initial(0, 2), 0));
        test("promise 15: THE LAW with 0 for one of them alone", UNLIKE + ";price 0 1", x -> due(x.initial(0, 2), 1));
        test("promise 15: rising", LIKE, x -> {
            due(x.initial(0, 10), 6);
            due(x.initial(0, 11), 10);
            due(x.initial(0, 12), 12);
        });
    }

    private static void space() {
        String two = "told 0 2 1 1 5 2 2;";
        test("promise 16: the greatest is there twice", two + "price 0 3", x -> due(x.space(0), 1));
        test("promise 16: one less: it is there once", two + "price 0 2", x -> due(x.space(0), 0));
        test("promise 16: one more: it is there once", two + "price 0 4", x -> due(x.space(0), 0));
        test("promise 16: it is there three times", "uniform 0 3 2", x -> due(x.space(0), 1));
        test("promise 16: twice above another", "uniform 0 3 2;price 1 -1", x -> due(x.space(0), 1));
        test("promise 16: once above two others", "uniform 0 3 2;price 1 1", x -> due(x.space(0), 0));
        test("promise 16: one ELEMENT alone", LOOPS, x -> due(x.space(0), 0));
        test("promise 16: PRICES of ELEMENTS that there are not", "uniform 0 3 2;price 3 99;price 7 -99", x -> due(x.space(0), 1));
        test("promise 16: the SET of all ELEMENTS", "uniform 0 8 7", x -> due(x.space(0), 1));
        test("promise 16: the SET of all ELEMENTS, one above", "uniform 0 8 7;price 7 1", x -> due(x.space(0), 0));
        test("promise 17: a SET of no such ELEMENT does not fail", "told 0 3 1 1 3", x -> {
            due(x.failing(0, -1), 2);
            due(x.failing(0, 0), 3);
            due(x.failing(0, 1), 5);
            due(x.failing(0, 2), -4);
        });
        test("promise 17: all SETS fail", "uniform 0 3 1;price 1 1;price 2 2", x -> {
            due(x.failing(0, -1), 3);
            due(x.failing(0, 2), 6);
            due(x.failing(0, 3), -4);
        });
        test("promise 17: the SET of all ELEMENTS fails", "uniform 0 8 7;price 7 1", x -> {
            due(x.failing(0, -1), 1);
            due(x.failing(0, 0), 255);
        });
        test("promise 17: PRICES at both bounds", "told 0 2 1 1 -1000000 2 -998000;price 0 -1000;price 1 1000", x -> due(x.failing(0, -1), 0));
    }

    private static void spanned() {
        test("promise 18: r 1: the empty SET", LOOPS, x -> {
            due(x.spanned(0, 0), 1);
            due(x.spanned(0, 1), 1);
        });
        test("promise 18: r one less than n", "uniform 0 8 7", x -> {
            due(x.spanned(0, 0), 28);
            due(x.spanned(0, 1), 28);
        });
        test("promise 18: SETS in no BASE are not counted", "told 0 4 2 3 4 9 -6", x -> due(x.spanned(0, 0), 3));
        test("promise 18: none is in space", UNLIKE, x -> {
            due(x.spanned(0, 0), 4);
            due(x.spanned(0, 1), 0);
        });
        test("promise 18: all are, VALUES being alike", "told 0 4 2 3 1 12 1 5 1 10 1 6 0 9 0", x -> due(x.spanned(0, 1), 4));
        test("promise 18: none is, one VALUE being one less", "told 0 4 2 3 1 12 1 5 1 10 0 6 0 9 0", x -> due(x.spanned(0, 1), 0));
        test("promise 18: of n 8, r 2", "uniform 0 8 2", x -> {
            due(x.spanned(0, 0), 8);
            due(x.spanned(0, 1), 8);
        });
        test("promise 18: others have no number, VALUES being below 0", "told 0 4 2 3 -5 5 -5 9 -5 6 -5 10 -5 12 -5",
            x -> due(x.spanned(0, 1), 4));
        test("promise 18: others have no number, PRICES being asked ahead", "uniform 0 4 2;price 0 900", x -> {
            due(x.space(0), 0);
            due(x.spanned(0, 1), 4);
        });
        test("promise 18: PRICES are not asked", "uniform 0 4 2;price 0 9;price 1 -9", x -> due(x.spanned(0, 1), 4));
    }

    private static void common() {
        test("promise 19: none", "told 0 2 1 1 0;told 1 2 1 2 0", x -> {
            due(x.both(0, 1, 0), 0);
            due(x.both(0, 1, 1), -2);
            due(x.both(0, 1, 2), NO_VALUE);
            due(x.both(0, 1, 3), 0);
        });
        test("promise 19: one", "told 0 3 1 1 4 2 5;told 1 3 1 2 -9 4 6", x -> {
            due(x.both(0, 1, 0), 1);
            due(x.both(0, 1, 1), 2);
            due(x.both(0, 1, 2), -4);
            due(x.both(0, 1, 3), 1);
        });
        test("promise 19: seventy", SEVENTY + ";dual 1 0", x -> {
            due(x.both(0, 1, 0), 70);
            due(x.both(0, 1, 1), 15);
        });
        test("promise 19: of like ones the least", "told 0 3 1 1 0 2 4 4 4;told 1 3 1 1 9 2 5 4 5", x -> due(x.both(0, 1, 1), 1));
        test("promise 19: one more is THE COMMON", "told 0 3 1 1 0 2 4 4 5;told 1 3 1 1 9 2 5 4 5", x -> due(x.both(0, 1, 1), 4));
        test("promise 19: the greatest VALUES together", "told 0 2 1 1 1000000", x -> due(x.both(0, 0, 2), 2000000));
        test("promise 19: the least VALUES together", "told 0 2 1 1 -1000000", x -> due(x.both(0, 0, 2), -2000000));
        test("promise 19: PRICES are not asked", "price 1 9", x -> due(x.both(0, 1, 1), 1));
    }

    private static void potentials(String named, String text, int... want) {
        test("promise 20: " + named, text, x -> {
            due(x.both(0, 1, 3), 1);
            for (int e = 0; e < want.length; e++) {
                due(x.potential(0, 1, e), want[e]);
            }
        });
    }

    private static void noPotentials(String named, String text) {
        test("promise 20: " + named, text, x -> {
            due(x.both(0, 1, 3), 0);
            due(x.potential(0, 1, 0), NO_VALUE);
            due(x.potential(0, 1, 1), NO_VALUE);
        });
    }

    private static void potentials() {
        potentials("none above 0", "told 0 2 1 1 9 2 0;told 1 2 1 1 9 2 0", 0, 0);
        potentials("bounded by the first SHELF", "told 0 2 1 1 0 2 3;told 1 2 1 1 5 2 0", 0, -3);
        potentials("bounded by the second SHELF", "told 0 2 1 1 5 2 0;told 1 2 1 1 0 2 3", -3, 0);
        potentials("bounded by the first SHELF, THE COMMON behind", "told 0 2 1 1 3 2 0;told 1 2 1 1 0 2 5", -3, 0);
        potentials("bounded by the second SHELF, THE COMMON behind", "told 0 2 1 1 0 2 5;told 1 2 1 1 3 2 0", 0, -3);
        potentials("bounded by both, the ring being 0", "told 0 2 1 1 0 2 3;told 1 2 1 1 3 2 0", 0, -3);
        potentials("VALUES far apart", "told 0 2 1 1 -1000000 2 1000000;told 1 2 1 1 1000000 2 -1000000", 0, -2000000);
        potentials("one BASE bounds nothing", "told 0 2 1 1 5;told 1 2 1 1 -5", 0, 0);
        potentials("one after the other over all eight", "told 0 8 4 15 0 135 1 75 1 45 1 30 1;told 1 8 4 15 0 139 1 77 1 46 1",
            -6, -4, -2, 0, -7, -5, -3, -1);
        potentials("a ring over four that is 0", "told 0 4 2 3 0 6 1 9 -1;told 1 4 2 3 0 5 0 10 0", 0, -1, -1, 0);
        noPotentials("none: a ring over four goes down by 1", "told 0 4 2 3 0 6 1 9 0;told 1 4 2 3 0 5 0 10 0");
        noPotentials("none: there is no COMMON", "told 0 2 1 1 0;told 1 2 1 2 0");
        test("promise 20: of an ELEMENT that no BASE has", "told 0 3 1 1 5;told 1 3 1 1 5", x -> due(x.potential(0, 1, 2), 0));
    }

    private static void together(String named, String text, int cover, int pack) {
        test("promise 21: COVER of " + named, text, x -> due(x.together(0, 0), cover));
        test("promise 21: PACK of " + named, text, x -> due(x.together(0, 1), pack));
    }

    private static void together() {
        together("the smallest SHELF", "", 2, 2);
        together("eight of one ELEMENT", "uniform 0 8 1", 8, 8);
        together("all but one ELEMENT", "uniform 0 8 7", 2, 1);
        together("half of the ELEMENTS", SEVENTY, 2, 2);
        together("three of eight", "uniform 0 8 3", 3, 2);
        together("five of eight", "uniform 0 8 5", 2, 1);
        together("one BASE with LOOPS", LOOPS, -2, 1);
        together("one BASE with one LOOP", BRIDGES, -2, 1);
        together("all but one LOOP", "told 0 8 1 1 0 2 0 4 0 8 0 16 0 32 0 64 0", -2, 7);
        together("BASES that share an ELEMENT", "told 0 4 2 3 0 5 0 9 0", 3, 1);
        together("BASES without THE LAW", UNLIKE, 2, 2);
        test("promise 22: no ELEMENTS", LOOPS, x -> due(x.sized(0, 0), 1));
        test("promise 22: r ELEMENTS are BASES", LOOPS, x -> due(x.sized(0, 1), 1));
        test("promise 22: more than r", LOOPS, x -> due(x.sized(0, 2), 0));
        test("promise 22: all ELEMENTS", LOOPS, x -> due(x.sized(0, 8), 0));
        test("promise 22: less than r", BRIDGES, x -> due(x.sized(0, 6), 7));
    }

    private static void tutte(String named, String text, long... triples) {
        for (int k = 0; k < triples.length; k += 3) {
            int a = (int) triples[k];
            int b = (int) triples[k + 1];
            long want = triples[k + 2];
            test("promise 23: TUTTE of " + named + " at " + a + ", " + b, text, x -> due(x.tutte(0, a, b), want));
        }
    }

    /** TUTTE of the smallest SHELF is x and y together; of a BRIDGE and seven LOOPS x times the seventh power of y. */
    private static void tutte() {
        tutte("the smallest SHELF", "", -3, -3, -6, -3, 4, 1, 4, -3, 1, 4, 4, 8, 1, 1, 2, 0, 0, 0);
        tutte("seventy BASES", SEVENTY, 4, 4, 1504, -3, -3, 6, 1, 1, 70, 2, 2, 256, 2, 1, 163, 1, 2, 163, 0, 0, 0);
        tutte("seven LOOPS", LOOPS, 4, 4, 65536, -3, -3, 6561, 4, -3, -8748, 1, 1, 1, 0, 4, 0, 4, 0, 0);
        tutte("seven BRIDGES", BRIDGES, 4, 4, 65536, -3, -3, 6561, -3, 4, -8748, 1, 1, 1, 0, 4, 0, 4, 0, 0);
        tutte("no LAW", UNLIKE, 1, 1, 2, 2, 2, 16, 2, 1, 7);
        test("promise 23: NO_VALUE is told as a long", x -> due(x.tutte(4, 0, 0) == -2147483648L, true));
    }

    private static void share(String named, String text, int element, long above, long below) {
        test("promise 24: " + named + ", above", text, x -> due(x.share(0, element, 0), above));
        test("promise 24: " + named + ", below", text, x -> due(x.share(0, element, 1), below));
    }

    private static void shares() {
        share("a LOOP", LOOPS, 7, 0, 1);
        share("a BRIDGE beside LOOPS", LOOPS, 0, 1, 1);
        share("a BRIDGE beside BRIDGES", BRIDGES, 6, 1, 1);
        share("the only LOOP", BRIDGES, 7, 0, 1);
        share("one of eight", "uniform 0 8 1", 7, 1, 8);
        share("seven of eight", "uniform 0 8 7", 0, 7, 8);
        share("four of eight, in lowest terms", SEVENTY, 3, 1, 2);
        share("six of eight, in lowest terms", "uniform 0 8 6", 3, 3, 4);
        share("the smallest SHELF", "", 1, 1, 2);
        share("no LAW", UNLIKE, 2, 1, 2);
        share("VALUES are not asked", "told 0 3 1 1 9 2 -9 4 0", 1, 1, 3);
        share("of a ring and an edge beside one of it", "graph 0 4 3 0 1 1 2 0 2 0 2", 1, 7, 12);
    }

    private static void component(String text, int... want) {
        test("promise 25: COMPONENTS of " + text, text, x -> {
            for (int e = 0; e < want.length; e++) {
                due(x.component(0, e), want[e]);
            }
        });
    }

    private static void components() {
        component(LOOPS, 0, 1, 2, 3, 4, 5, 6, 7);
        component(BRIDGES, 0, 1, 2, 3, 4, 5, 6, 7);
        component(SEVENTY, 0, 0, 0, 0, 0, 0, 0, 0);
        component("graph 0 6 5 0 1 1 2 2 0 2 3 3 4 4 2", 0, 0, 0, 3, 3, 3);
        component("graph 0 8 6 0 1 3 4 1 2 4 5 2 0 5 3 0 3 4 5", 0, 1, 0, 1, 0, 1, 6, 1);
        component("graph 0 7 6 0 1 0 1 1 2 1 2 2 3 3 4 4 5", 0, 0, 2, 2, 4, 5, 6);
        component("graph 0 7 5 0 1 1 2 0 2 2 3 0 3 3 4 0 4", 0, 0, 0, 0, 0, 0, 0);
        component(UNLIKE, 0, 0, 0, 0);
    }

    private static void quotients() {
        test("promise 26: a SHELF is of itself", SEVENTY, x -> due(x.quotient(0, 0), 1));
        test("promise 26: a cut one is of the whole", "uniform 0 8 4;cut 1 0", x -> due(x.quotient(0, 1), 1));
        test("promise 26: the whole is not of a cut one", "uniform 0 8 4;cut 1 0", x -> due(x.quotient(1, 0), 0));
        test("promise 26: one FLAT is none of the other's", "told 0 3 1 1 0;told 1 3 1 2 0", x -> due(x.quotient(0, 1), 0));
        test("promise 26: only FLATS of the second are asked", "uniform 0 3 2;told 1 3 1 1 0 2 0 4 0", x -> {
            due(x.quotient(0, 1), 1);
            due(x.quotient(1, 0), 0);
        });
        test("promise 26: the empty FLAT alone is none of the other's", "told 0 3 1 1 0;uniform 1 3 1", x -> {
            due(x.quotient(0, 1), 0);
            due(x.quotient(1, 0), 0);
        });
        test("promise 26: the FLAT of all ELEMENTS is of both", "told 0 3 1 1 0;uniform 1 3 2", x -> due(x.quotient(1, 0), 0));
        test("promise 26: the least FLAT is none of the other's", "uniform 0 3 2;told 1 3 2 3 0", x -> {
            due(x.quotient(1, 0), 0);
            due(x.quotient(0, 1), 0);
        });
    }

    private static void gaps() {
        test("promise 27: a LOOP is in none", LOOPS, x -> {
            due(x.gap(0, 7, 0), NO_VALUE);
            due(x.gap(0, 7, 1), 5);
        });
        test("promise 27: without a BRIDGE there is none", BRIDGES, x -> {
            due(x.gap(0, 0, 0), 5);
            due(x.gap(0, 0, 1), NO_VALUE);
        });
        test("promise 27: SUMS below 0", "told 0 3 1 1 -1000000 2 -999999 4 -7;price 0 -1000", x -> {
            due(x.gap(0, 0, 0), -1001000);
            due(x.gap(0, 0, 1), -7);
            due(x.gap(0, 2, 1), -999999);
        });
        test("promise 28: none with a LOOP", LOOPS, x -> due(x.tips(0, 7), NO_VALUE));
        test("promise 28: none without a BRIDGE", BRIDGES, x -> due(x.tips(0, 0), NO_VALUE));
        test("promise 28: the PRICE it has", "told 0 2 1 1 4 2 6;price 0 2", x -> due(x.tips(0, 0), 2));
        test("promise 28: a PRICE beyond those there can be", "told 0 2 1 1 -1000000 2 1000000;price 1 1000", x -> {
            due(x.tips(0, 0), 2001000);
            due(x.tips(0, 1), -2000000);
        });
        test("promise 28: it goes by the PRICE it has", "told 0 2 1 1 4 2 6;price 0 -1000", x -> due(x.tips(0, 0), 2));
    }

    private static void stairs() {
        test("promise 29: they are one", LOOPS, x -> {
            due(x.stairs(0, 1, 1, 0), 0);
            due(x.stairs(0, 1, 1, 1), 5);
        });
        test("promise 29: one step", x -> due(x.stairs(0, 1, 2, 0), 1));
        test("promise 29: as many as ELEMENTS in a BASE", SEVENTY, x -> due(x.stairs(0, 15, 240, 0), 4));
        test("promise 29: none", UNLIKE, x -> {
            due(x.stairs(0, 3, 12, 0), -2);
            due(x.stairs(0, 3, 12, 1), NO_VALUE);
        });
        test("promise 29: a way about, of more steps than ELEMENTS unlike", "told 0 5 2 3 0 5 0 12 0 24 0 18 0", x -> {
            due(x.stairs(0, 3, 24, 0), 2);
            due(x.stairs(0, 5, 18, 0), 2);
            due(x.stairs(0, 5, 24, 0), 2);
        });
        test("promise 29: a way of five steps", "told 0 7 2 3 9 6 8 12 7 24 6 48 5 96 4", x -> {
            due(x.stairs(0, 3, 96, 0), 5);
            due(x.stairs(0, 96, 3, 0), 5);
            due(x.stairs(0, 3, 96, 1), 4);
            due(x.stairs(0, 3, 48, 1), 5);
        });
        test("promise 29: both ends count", "told 0 4 2 3 -9 5 1 12 8", x -> {
            due(x.stairs(0, 3, 12, 1), -9);
            due(x.stairs(0, 12, 3, 1), -9);
            due(x.stairs(0, 12, 5, 1), 1);
        });
        test("promise 29: a longer way of a greater least SUM", "told 0 4 2 3 9 5 -5 12 9 6 3 10 4", x -> due(x.stairs(0, 3, 12, 1), 4));
        test("promise 29: PRICES count", "told 0 4 2 3 9 5 4 12 9 6 3;price 0 -7;price 1 1", x -> due(x.stairs(0, 3, 12, 1), 3));
    }

    private static void tells(String text, String want) {
        test("promise 30: " + want, text, x -> due(told(x, want.charAt(5) - '0'), want));
    }

    private static void told() {
        tells("", "told 0 2 1 1 0 2 0");
        tells("told 3 2 1 2 -1", "told 3 2 1 2 -1");
        tells("told 0 8 7 254 -1000000", "told 0 8 7 254 -1000000");
        tells("told 0 4 2 12 1000000 3 999999 5 9 6 10 9 -10", "told 0 4 2 3 999999 5 9 6 10 9 -10 12 1000000");
        tells("told 1 4 1 1 99 2 100 4 101 8 1001", "told 1 4 1 1 99 2 100 4 101 8 1001");
        tells("told 1 4 1 1 -99 2 -100000 4 100000 8 -7", "told 1 4 1 1 -99 2 -100000 4 100000 8 -7");
        test("promise 30: of seventy BASES", SEVENTY, x -> {
            due(x.told(0, -1), 404);
            due(x.told(0, 403), '0');
            due(x.told(0, 402), ' ');
            due(x.told(0, 401), '0');
            due(x.told(0, 404), -4);
        });
        test("promise 30: of seventy BASES of the longest VALUES",
            "told 0 2 1 1 -999999 2 -999999;told 1 2 1 1 -1 2 -1;uniform 2 8 4;price 0 -1000;shift 2 2", x -> {
                due(x.told(2, -1), 404 + 35 * 4);
            });
        test("promise 30: what it tells is an order of the same", "told 2 4 2 12 1000000 3 -999999 5 9", x -> {
            String want = told(x, 2);
            due(Texts.orders(x, "uniform 2 3 1;" + want), 2);
            due(told(x, 2), want);
        });
    }

    private static void onto(String named, String text, int... want) {
        for (int k = 0; k < want.length; k++) {
            int what = k;
            test("promise 31: " + named + ", what " + k, text, x -> due(x.onto(0, 1, what), want[what]));
        }
    }

    private static void onto() {
        onto("the smallest SHELVES", "", 2, 0, 1);
        onto("one row, turned about", "told 0 2 1 1 5;told 1 2 1 2 5", 1, 1, 0);
        onto("none: one VALUE is one more", "told 0 2 1 1 5;told 1 2 1 2 6", 0, -2, -2);
        onto("none: a BASE more", "told 0 2 1 1 0", 0, -2, -2);
        onto("none: a BASE less", "told 1 2 1 1 0", 0, -2, -2);
        onto("where the second has none the first has none", "told 0 3 1 1 5 4 6;told 1 3 1 2 5 1 6", 1, 1, 2, 0);
        onto("the first row by ELEMENT 0's, then 1's", "told 0 4 2 3 7 12 7;told 1 4 2 5 7 10 7", 8, 0, 2, 1, 3);
        onto("eight, any way", "uniform 0 8 4;uniform 1 8 4", 40320, 0, 1, 2, 3, 4, 5, 6, 7);
        onto("eight, the last first", "told 0 8 1 1 1 2 2 4 3 8 4 16 5 32 6 64 7;told 1 8 1 128 1 64 2 32 3 16 4 8 5 4 6 2 7",
            1, 7, 6, 5, 4, 3, 2, 1, 0);
        onto("LOOPS, each to one of its own", LOOPS + ";told 1 8 1 8 5", 5040, 3, 0, 1, 2, 4, 5, 6, 7);
        onto("LOOPS ahead", "told 0 4 1 8 5;told 1 4 1 8 5", 6, 0, 1, 2, 3);
        onto("what begins well may not end well", "told 0 7 2 3 0 6 0 12 0 9 0 48 0 96 0 80 0;told 1 7 2 3 0 6 0 5 0 24 0 48 0 96 0 72 0",
            48, 3, 4, 5, 6, 0, 1, 2);
        onto("not by how often each is in BASES alone", "told 0 6 2 3 0 6 0 5 0 24 0 48 0 40 0;told 1 6 2 3 0 6 0 12 0 24 0 48 0 33 0",
            0, -2);
    }

    private static void binary() {
        test("promise 32: n 2", x -> due(x.binary(0), 1));
        test("promise 32: n 3", "uniform 0 3 2", x -> due(x.binary(0), 1));
        test("promise 32: two of four", "uniform 0 4 2", x -> due(x.binary(0), 0));
        test("promise 32: one of eight", "uniform 0 8 1", x -> due(x.binary(0), 1));
        test("promise 32: seven of eight", "uniform 0 8 7", x -> due(x.binary(0), 1));
        test("promise 32: two of eight", "uniform 0 8 2", x -> due(x.binary(0), 0));
        test("promise 32: six of eight, by a SET of four", "uniform 0 8 6", x -> due(x.binary(0), 0));
        test("promise 32: the last four ELEMENTS by all others", "told 0 4 2 3 0 5 0 9 0 6 0 10 0 12 0;told 1 4 3 7 0;plus 0 1 0",
            x -> due(x.binary(0), 0));
        test("promise 32: the first four ELEMENTS", "told 0 4 2 3 0 5 0 9 0 6 0 10 0 12 0;told 1 4 3 7 0;plus 0 0 1",
            x -> due(x.binary(0), 0));
        test("promise 32: two of the four do not raise it by 2", "told 0 4 2 3 0 5 0 9 0 6 0 10 0", x -> due(x.binary(0), 1));
        test("promise 32: seven points in seven lines", "told 0 7 3 11 0 19 0 35 0 67 0 13 0 21 0 37 0 69 0 41 0 73 0 49 0 81 0 14 0 22 0"
            + " 38 0 70 0 26 0 74 0 50 0 98 0 28 0 44 0 84 0 100 0 56 0 88 0 104 0 112 0", x -> due(x.binary(0), 1));
        test("promise 32: seven points in six lines", "told 0 7 3 7 0 11 0 19 0 35 0 67 0 13 0 21 0 37 0 69 0 41 0 73 0 49 0 81 0 14 0"
            + " 22 0 38 0 70 0 26 0 74 0 50 0 98 0 28 0 44 0 84 0 100 0 56 0 88 0 104 0 112 0", x -> due(x.binary(0), 0));
    }

    private static void shared() {
        test("promise 33: the empty SET is FREE on both", LOOPS + ";told 1 8 1 128 0;price 0 7", x -> {
            due(x.shared(0, 1, 0, 0), 1);
            due(x.shared(0, 1, 0, 1), 0);
            due(x.shared(0, 1, 0, 2), 0);
        });
        test("promise 33: none of one ELEMENT", LOOPS + ";told 1 8 1 128 0", x -> {
            due(x.shared(0, 1, 1, 0), 0);
            due(x.shared(0, 1, 1, 1), NO_VALUE);
            due(x.shared(0, 1, 1, 2), -2);
        });
        test("promise 33: all of n are FREE on none", SEVENTY, x -> {
            due(x.shared(0, 0, 8, 0), 0);
            due(x.shared(0, 0, 8, 2), -2);
        });
        test("promise 33: sums below 0", "uniform 0 3 2;uniform 1 3 1;price 0 -5;price 1 -4;price 2 -4", x -> {
            due(x.shared(0, 1, 1, 1), -4);
            due(x.shared(0, 1, 1, 2), 2);
        });
        test("promise 33: VALUES are not asked", "told 0 2 1 1 5 2 9", x -> due(x.shared(0, 0, 1, 1), 0));
        test("promise 33: of unlike r", "uniform 0 3 2;uniform 1 3 1", x -> {
            due(x.shared(0, 1, 1, 0), 3);
            due(x.shared(0, 1, 2, 0), 0);
            due(x.shared(1, 0, 2, 0), 0);
        });
        test("promise 33: of like sums the least", "uniform 0 4 2;price 0 -1", x -> due(x.shared(0, 0, 2, 2), 6));
        test("promise 33: the greatest sum there is", "told 0 8 7 254 0;price 1 1000;price 2 1000;price 3 1000;price 4 1000;"
            + "price 5 1000;price 6 1000;price 7 1000", x -> due(x.shared(0, 0, 7, 1), 7000));
    }

    private static void games() {
        test("promise 34: a BASE is taken", LOOPS, x -> due(x.game(0, 1), 0));
        test("promise 34: none is taken, one can be", LOOPS, x -> due(x.game(0, 0), 1));
        test("promise 34: the last ELEMENT wins", "told 0 8 1 128 0", x -> due(x.game(0, 0), 8));
        test("promise 34: the least of those that win", "told 0 8 1 64 0 128 0", x -> due(x.game(0, 0), 7));
        test("promise 34: r even: who begins has lost", SEVENTY, x -> due(x.game(0, 0), 0));
        test("promise 34: r odd: who begins wins", "uniform 0 8 7", x -> due(x.game(0, 0), 1));
        test("promise 34: not the least ELEMENT that can be taken", "told 0 4 2 3 0 12 0", x -> {
            due(x.game(0, 8), 3);
            due(x.game(0, 1), 2);
        });
        test("promise 34: a LOOP is not FREE", LOOPS, x -> due(x.game(0, 2), NONE));
        test("promise 34: more than a BASE is not FREE", LOOPS, x -> due(x.game(0, 3), NONE));
        test("promise 34: all ELEMENTS are not FREE", SEVENTY, x -> due(x.game(0, 255), NONE));
    }

    private static void far() {
        test("promise 35: none", "told 0 2 1 1 0;told 1 2 1 2 0", x -> due(x.far(0, 1), -2));
        test("promise 35: one BASE of both", "told 0 3 1 1 5 2 9;told 1 3 1 1 -4 4 7", x -> due(x.far(0, 1), 0));
        test("promise 35: of itself", SEVENTY, x -> due(x.far(0, 0), 0));
        test("promise 35: VALUES at all bounds", "told 0 2 1 1 1000000 2 -1000000;told 1 2 1 1 -1000000 2 1000000", x -> {
            due(x.far(0, 1), 4000000);
            due(x.far(1, 0), 4000000);
        });
        test("promise 35: all more below 0", "told 0 3 1 1 -9 2 -7 4 -8", x -> {
            Texts.orders(x, "uniform 1 3 1");
            due(x.far(0, 1), 2);
        });
        test("promise 35: all more above 0", "told 0 3 1 1 9 2 7 4 8;uniform 1 3 1", x -> due(x.far(0, 1), 2));
    }

    private static void beside(String named, String text, int... want) {
        for (int k = 0; k < 4; k++) {
            int what = k;
            test("promise 36: " + named + ", what " + k, text, x -> due(x.beside(0, what), want[what]));
        }
    }

    private static void beside() {
        beside("the smallest SHELF", "", 1, 1, 1, 1);
        beside("seventy BASES", SEVENTY, 560, 4, 15, 16);
        beside("one BASE", "told 0 8 7 254 5", 0, 0, 254, 0);
        beside("some have no STAIRS", UNLIKE, 0, -2, 3, 0);
        beside("one has no STAIRS", "told 0 5 2 3 0 5 0 24 0", 1, -2, 3, 1);
        beside("the least BASE is not in the most, two others are", "told 0 5 2 3 0 12 0 17 0 20 0", 3, 3, 17, 2);
        beside("more steps than ELEMENTS unlike", "told 0 7 2 3 9 6 8 12 7 24 6 48 5 96 4", 5, 5, 6, 2);
        beside("seven of eight", "uniform 0 8 7", 28, 1, 127, 7);
    }

    /** No SHELF has more BASES than four of eight ELEMENTS. */
    private static void seventyBases() {
        String sloped = SEVENTY + ";price 7 3;price 0 -2";
        test("promise 13: GREEDY over seventy BASES", sloped, x -> {
            due(x.greedy(0, 15, 0), 142);
            due(x.greedy(0, 15, 1), 3);
            due(x.greedy(0, 240, 2), 0);
        });
        test("promise 15: INITIAL of seventy BASES", sloped, x -> {
            due(x.initial(0, 0), 20);
            due(x.initial(0, 1), 3);
            due(x.initial(0, 2), 1);
            due(x.initial(0, 29), 240);
        });
        test("promise 15: all seventy are INITIAL, and THE LAW holds for them", SEVENTY, x -> due(x.initial(0, 2), 1));
        test("promise 16: space of seventy BASES", SEVENTY, x -> due(x.space(0), 1));
        test("promise 17: FAILING of seventy BASES", sloped, x -> {
            due(x.failing(0, -1), 35);
            due(x.failing(0, 34), 248);
        });
        test("promise 18: spanned by seventy BASES", SEVENTY, x -> {
            due(x.spanned(0, 0), 56);
            due(x.spanned(0, 1), 56);
        });
        test("promise 19: THE COMMON of seventy BASES", sloped + ";shift 1 0", x -> {
            due(x.both(0, 1, 0), 70);
            due(x.both(0, 1, 1), 142);
            due(x.both(0, 1, 2), 3);
        });
        test("promise 20: POTENTIALS over seventy BASES", sloped + ";shift 1 0;dual 2 0", x -> {
            due(x.both(1, 2, 3), 1);
            due(x.potential(1, 2, 7), 0);
            due(x.potential(1, 2, 0), 0);
        });
        test("promise 27: gap of seventy BASES", sloped, x -> {
            due(x.gap(0, 0, 0), 1);
            due(x.gap(0, 7, 1), 0);
        });
        test("promise 28: tips of seventy BASES", sloped, x -> due(x.tips(0, 7), 0));
        test("promise 29: STAIRS over seventy BASES", sloped, x -> {
            due(x.stairs(0, 15, 240, 1), -2);
            due(x.stairs(0, 30, 240, 1), 0);
        });
        test("promise 35: far over seventy BASES", sloped + ";shift 1 0", x -> due(x.far(1, 0), 5));
        test("promise 3: initial of seventy BASES", sloped + ";initial 1 0", x -> due(x.shelf(1, 2), 20));
        test("promise 3: shift of seventy BASES", sloped + ";shift 1 0", x -> due(x.value(1, 240), 3));
        test("promise 3: dual of seventy BASES", sloped + ";shift 1 0;dual 1 1", x -> due(x.value(1, 15), 3));
        test("promise 3: cut of seventy BASES", sloped + ";shift 1 0;cut 1 1", x -> {
            due(x.shelf(1, 2), 56);
            due(x.value(1, 7), 1);
        });
        test("promise 3: raise of seventy BASES", sloped + ";shift 1 0;raise 1 1", x -> {
            due(x.shelf(1, 2), 56);
            due(x.value(1, 31), 0);
        });
    }

    /** VALUES and SUMS that are like what is told where there is none. */
    private static void minusOne() {
        String all = "told 0 4 2 3 -1 5 -1 9 -1 6 -1 10 -1 12 -1";
        shelf("all VALUES -1", all, 4, 2, 6, -1, 3, 0, 0, 1, 1, 11, 6, 4, 0);
        test("promise 6: a VALUE of -1", all, x -> due(x.value(0, 3), -1));
        test("promise 9: VALUES of -1 do", all, x -> due(x.exchange(0, 3, 12, 0), 2));
        test("promise 9: one VALUE of -1", "told 0 4 2 3 -1 12 0 9 0 6 -1", x -> due(x.exchange(0, 3, 12, 0), 2));
        test("promise 15: SUMS of -1", all, x -> {
            due(x.initial(0, 1), -1);
            due(x.initial(0, 0), 6);
        });
        test("promise 19: VALUES together -1", "told 0 2 1 1 -1", x -> due(x.both(0, 1, 2), -1));
        test("promise 27: a SUM of -1", all, x -> due(x.gap(0, 0, 0), -1));
        test("promise 29: a least SUM of -1", all, x -> due(x.stairs(0, 3, 12, 1), -1));
        test("promise 29: a least SUM of -1 on the way", "told 0 4 2 3 5 5 -1 12 5", x -> due(x.stairs(0, 3, 12, 1), -1));
        test("promise 3: VALUES of -1 are cut", all + ";cut 0 0", x -> due(told(x, 0), "told 0 4 1 1 -1 2 -1 4 -1 8 -1"));
    }

    /** What one call has found does not show in the next. */
    private static void oneAfterTheOther() {
        String two = LOOPS + ";uniform 1 8 4";
        test("promise 34: a GAME behind another SHELF's", two, x -> {
            due(x.game(0, 0), 1);
            due(x.game(1, 0), 0);
            due(x.game(0, 0), 1);
        });
        test("promise 21: COVER behind a GAME", two, x -> {
            due(x.game(0, 0), 1);
            due(x.together(1, 0), 2);
        });
        test("promise 21: PACK behind a GAME", two, x -> {
            due(x.game(0, 0), 1);
            due(x.together(1, 1), 2);
        });
        test("promise 34: a GAME behind COVER and PACK", two, x -> {
            due(x.together(1, 0), 2);
            due(x.game(1, 0), 0);
            due(x.together(1, 1), 2);
            due(x.game(1, 0), 0);
        });
        test("promise 20: POTENTIALS behind those of others", "told 0 2 1 1 0 2 3;told 1 2 1 1 5 2 0", x -> {
            due(x.potential(0, 1, 1), -3);
            due(x.potential(2, 3, 1), 0);
            due(x.potential(1, 0, 0), -3);
            due(x.potential(1, 0, 1), 0);
        });
        test("promise 29: STAIRS behind those of another SHELF", "uniform 0 4 2;told 1 4 2 3 7 12 7", x -> {
            due(x.stairs(0, 3, 12, 0), 2);
            due(x.stairs(1, 3, 12, 0), -2);
            due(x.stairs(0, 3, 12, 1), 0);
            due(x.stairs(1, 3, 12, 1), NO_VALUE);
        });
        test("promise 31: ONTO behind that of others", "told 0 3 1 1 5;told 1 3 1 4 5", x -> {
            due(x.onto(0, 1, 1), 2);
            due(x.onto(2, 3, 1), 0);
            due(x.onto(0, 2, 1), NONE);
            due(x.onto(1, 0, 3), 0);
        });
        test("promise 30: a shorter SHELF is told behind a longer one", two, x -> {
            due(x.told(1, -1), 404);
            due(told(x, 0), "told 0 8 1 1 5");
        });
        test("promise 13: GREEDY by other PRICES", "uniform 0 4 2;price 3 5", x -> {
            due(x.greedy(0, 3, 0), 9);
            x.price(3, -5);
            due(x.greedy(0, 3, 0), 3);
            due(x.initial(0, 1), 0);
        });
    }
}
