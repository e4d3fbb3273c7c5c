/** Promise 3 at its bounds: what CLAUSES make of SHELVES, and which are refused when it comes to doing them. */
public final class BoundsClauseTest extends Bounds {
    public static void main(String[] args) {
        uniform();
        match();
        graph();
        told();
        dual();
        without();
        by();
        shift();
        plus();
        cut();
        initial();
        raise();
        join();
        oneByOne();
        itself();
        end();
    }

    /** The SHELF that is told (its number behind "told ") must be this one. */
    private static void makes(String named, String text, String want) {
        test("promise 3: " + named + ": " + text, text, x -> due(told(x, want.charAt(5) - '0'), want));
    }

    /** The last CLAUSE is refused: those ahead are done, and SHELVES, PRICES and PAST are as these left them. */
    private static void refused(String named, String text) {
        test("promise 3: " + named + " is refused: " + text, x -> {
            int last = text.lastIndexOf(';');
            String ahead = last < 0 ? "price 0 0" : text.substring(0, last);
            PricedBases other = new PricedBases();
            int done = Texts.orders(other, ahead);
            due(done, Texts.clauses(ahead));
            due(Texts.orders(x, text), last < 0 ? 0 : done);
            for (int s = 0; s < 4; s++) {
                due(told(x, s), told(other, s));
            }
            for (int k = 0; k < 3; k++) {
                due(x.past(k, 0), other.past(k, 0));
            }
            due(x.price(0, 0), other.price(0, 0));
        });
    }

    private static void uniform() {
        makes("the smallest", "uniform 1 2 1", "told 1 2 1 1 0 2 0");
        makes("r one less than n", "uniform 1 4 3", "told 1 4 3 7 0 11 0 13 0 14 0");
        makes("r 1", "uniform 1 4 1", "told 1 4 1 1 0 2 0 4 0 8 0");
        makes("n 8, r 7", "uniform 0 8 7", "told 0 8 7 127 0 191 0 223 0 239 0 247 0 251 0 253 0 254 0");
        makes("n 8, r 1", "uniform 3 8 1", "told 3 8 1 1 0 2 0 4 0 8 0 16 0 32 0 64 0 128 0");
        test("promise 3: n 8, r 4 has seventy BASES", "uniform 0 8 4", x -> due(x.shelf(0, 2), 70));
        makes("it is made anew, none of its old VALUES stays", "told 0 8 1 1 5 128 6;uniform 0 3 2", "told 0 3 2 3 0 5 0 6 0");
    }

    private static void match() {
        makes("the least and the greatest W", "match 0 2 1 999 -999", "told 0 2 1 1 999 2 -999");
        makes("one row for each of R", "match 0 3 2 1 5 -2 4 4 0", "told 0 3 2 3 9 5 2 6 5");
        makes("unlike ELEMENTS, though one is the greatest of both rows", "match 0 3 2 9 0 1 9 0 2",
            "told 0 3 2 3 9 5 11 6 2");
        makes("all rows alike", "match 1 3 2 1 2 3 1 2 3", "told 1 3 2 3 3 5 4 6 5");
        makes("r one less than n", "match 2 4 3 1 0 0 0 0 1 0 0 0 0 1 0", "told 2 4 3 7 3 11 2 13 2 14 2");
        test("promise 3: as many W as a text has", "match 0 8 5" + " 999".repeat(40), x -> {
            due(x.shelf(0, 2), 56);
            due(x.value(0, 31), 4995);
            due(x.value(0, 248), 4995);
        });
        test("promise 3: the last W of the last row counts", "match 0 8 7" + " 0".repeat(55) + " 1", x -> {
            due(x.value(0, 127), 0);
            due(x.value(0, 254), 1);
        });
        makes("sums below 0", "match 0 3 2 -999 -999 -999 -999 -999 -999", "told 0 3 2 3 -1998 5 -1998 6 -1998");
    }

    private static void graph() {
        makes("two edges side by side", "graph 0 2 2 0 1 1 0", "told 0 2 1 1 0 2 0");
        makes("as many corners as edges", "graph 0 3 3 0 1 1 2 2 0", "told 0 3 2 3 0 5 0 6 0");
        makes("six corners", "graph 0 6 6 0 1 1 2 2 3 3 4 4 5 5 4", "told 0 6 5 31 0 47 0");
        makes("a ring over some corners is no tree", "graph 0 4 4 0 1 1 2 0 2 2 3", "told 0 4 3 11 0 13 0 14 0");
        makes("edges told from the last corner on", "graph 0 4 4 2 3 3 1 1 0 0 1", "told 0 4 3 7 0 11 0");
        test("promise 3: eight edges of six corners", "graph 0 8 6 0 1 0 2 0 3 0 4 0 5 1 2 3 4 4 5", x -> {
            due(x.shelf(0, 1), 5);
            due(x.shelf(0, 2), 3 * 8);
        });
        refused("one corner more than edges", "price 0 1;graph 1 2 3 0 1 1 2");
        refused("far more corners than edges", "graph 0 2 6 0 1 1 2");
        refused("more corners than edges, r as many as n", "graph 0 5 6 0 1 0 2 0 3 0 4 0 5");
        refused("a corner that no edge has", "graph 0 3 3 0 1 0 1 1 0");
        refused("two parts", "graph 0 5 5 0 1 1 2 0 2 3 4 4 3");
    }

    private static void told() {
        makes("one SET is enough", "told 0 2 1 2 7", "told 0 2 1 2 7");
        makes("the greatest and the least VALUE", "told 0 2 1 1 1000000 2 -1000000", "told 0 2 1 1 1000000 2 -1000000");
        makes("SETS in any order", "told 0 3 2 6 1 3 2 5 3", "told 0 3 2 3 2 5 3 6 1");
        makes("the highest SET", "told 0 8 7 254 -1", "told 0 8 7 254 -1");
        makes("the least SET of seven", "told 0 8 7 127 -1", "told 0 8 7 127 -1");
        makes("SHELF 3", "told 3 2 1 1 4", "told 3 2 1 1 4");
        makes("other SHELVES stay", "told 3 2 1 1 4", "told 2 2 1 1 0 2 0");
        makes("minus nought is nought", "told 0 2 1 1 -0", "told 0 2 1 1 0");
    }

    private static void dual() {
        makes("r 1 of n 8", "told 0 8 1 1 5 128 -6;dual 1 0", "told 1 8 7 127 -6 254 5");
        makes("r 7 of n 8", "told 0 8 7 127 -6 254 5;dual 1 0", "told 1 8 1 1 5 128 -6");
        makes("n 2", "told 0 2 1 1 5;dual 0 0", "told 0 2 1 2 5");
        makes("of SHELF 3", "told 3 3 1 2 9;dual 0 3", "told 0 3 2 5 9");
    }

    private static void without() {
        makes("n 3 comes to 2", "told 0 3 1 1 4 2 5 4 6;without 0 0 1", "told 0 2 1 1 4 2 6");
        refused("n 2", "told 0 2 1 1 4 2 5;without 1 0 0");
        makes("ELEMENT 0", "told 0 3 1 1 4 2 5 4 6;without 0 0 0", "told 0 2 1 1 5 2 6");
        makes("the last ELEMENT", "told 0 3 1 1 4 2 5 4 6;without 0 0 2", "told 0 2 1 1 4 2 5");
        makes("ELEMENT 7", "told 0 8 1 1 4 64 5 128 6;without 0 0 7", "told 0 7 1 1 4 64 5");
        refused("an E that K does not have", "uniform 0 3 1;without 1 0 3");
        refused("E 7 of n 7", "uniform 0 7 1;without 1 0 7");
        makes("E 6 of n 7", "told 0 7 1 1 3 64 4;without 1 0 6", "told 1 6 1 1 3");
        refused("E 7 of n 2", "without 1 0 7");
        makes("r two less than n", "told 0 4 2 3 1 6 2;without 0 0 0", "told 0 3 2 3 2");
        refused("r one less than n", "told 0 4 3 7 1 14 2;without 0 0 3");
        refused("all BASES have E", "told 0 4 2 3 1 9 2;without 1 0 0");
        makes("all BASES but one have E", "told 0 4 2 3 1 9 2 12 3;without 1 0 0", "told 1 3 2 6 3");
        makes("an E that no BASE has", "told 0 4 2 3 1 9 2;without 1 0 2", "told 1 3 2 3 1 5 2");
    }

    private static void by() {
        makes("r 2 comes to 1", "told 0 3 2 3 4 5 5 6 6;by 0 0 0", "told 0 2 1 1 4 2 5");
        refused("r 1", "told 0 3 1 1 4 2 5;by 1 0 0");
        refused("n 2", "by 1 0 0");
        makes("the ELEMENT between", "told 0 3 2 3 4 5 5 6 6;by 0 0 1", "told 0 2 1 1 4 2 6");
        makes("the last ELEMENT", "told 0 3 2 3 4 5 5 6 6;by 0 0 2", "told 0 2 1 1 5 2 6");
        makes("ELEMENT 7", "told 0 8 2 3 4 129 5 192 6;by 0 0 7", "told 0 7 1 1 5 64 6");
        refused("an E that K does not have", "uniform 0 4 2;by 1 0 4");
        refused("E 7 of n 7", "uniform 0 7 2;by 1 0 7");
        refused("an E that no BASE has", "told 0 4 2 3 1 9 2;by 1 0 2");
        makes("an E that one BASE has", "told 0 4 2 3 1 9 2;by 1 0 3", "told 1 3 1 1 2");
        makes("an E that all BASES have", "told 0 4 2 3 1 9 2;by 1 0 0", "told 1 3 1 1 1 4 2");
        makes("r 7 of n 8", "told 0 8 7 254 3 127 4;by 1 0 0", "told 1 7 6 63 4");
    }

    private static void shift() {
        makes("PRICES of its ELEMENTS", "told 0 3 2 3 1 6 2;price 0 10;price 1 -20;price 2 40;shift 1 0", "told 1 3 2 3 -9 6 22");
        makes("a VALUE comes to 1000000", "told 0 2 1 1 999000;price 0 1000;shift 0 0", "told 0 2 1 1 1000000");
        refused("a VALUE of 1000001", "told 0 2 1 1 999001;price 0 1000;shift 1 0");
        makes("a VALUE comes to -1000000", "told 0 2 1 2 -999000;price 1 -1000;shift 0 0", "told 0 2 1 2 -1000000");
        refused("a VALUE of -1000001", "told 0 2 1 2 -999001;price 1 -1000;shift 1 0");
        refused("one VALUE of two beyond", "told 0 2 1 1 0 2 1000000;price 1 1;shift 1 0");
        refused("the first VALUE of two beyond", "told 0 2 1 1 -1000000 2 0;price 0 -1;shift 1 0");
        makes("a PRICE of no BASE's ELEMENT", "told 0 2 1 1 1000000;price 1 1;shift 1 0", "told 1 2 1 1 1000000");
        makes("ELEMENT 7", "told 0 8 1 128 5;price 7 -6;shift 1 0", "told 1 8 1 128 -1");
        makes("seven PRICES", "told 0 8 7 127 0;price 0 1;price 1 2;price 2 4;price 3 8;price 4 16;price 5 32;price 6 64;"
            + "price 7 128;shift 1 0", "told 1 8 7 127 127");
    }

    private static void plus() {
        makes("the smallest", "told 0 2 1 1 3;told 1 2 1 2 4;plus 2 0 1", "told 2 4 2 9 7");
        makes("L's behind K's", "told 0 2 1 1 3;told 1 2 1 2 4;plus 2 1 0", "told 2 4 2 6 7");
        makes("n comes to 8", "told 0 5 1 16 3;told 1 3 2 6 4;plus 2 0 1", "told 2 8 3 208 7");
        refused("n 9", "told 0 5 1 16 3;uniform 1 4 2;plus 2 0 1");
        refused("n 16", "uniform 0 8 4;plus 1 0 0");
        makes("n 6 and 2", "told 0 6 5 62 1;told 1 2 1 1 1;plus 0 0 1", "told 0 8 6 126 2");
        makes("VALUES come to 1000000", "told 0 2 1 1 600000;told 1 2 1 1 400000;plus 2 0 1", "told 2 4 2 5 1000000");
        refused("a VALUE of 1000001", "told 0 2 1 1 600000;told 1 2 1 1 400001;plus 2 0 1");
        makes("VALUES come to -1000000", "told 0 2 1 1 -600000;told 1 2 1 1 -400000;plus 2 0 1", "told 2 4 2 5 -1000000");
        refused("a VALUE of -1000001", "told 0 2 1 1 -600000;told 1 2 1 1 -400001;plus 2 0 1");
        refused("VALUES of -2000000", "told 0 2 1 1 -1000000;plus 2 0 0");
        makes("all pairs", "told 0 2 1 1 1 2 2;told 1 2 1 1 10 2 20;plus 2 0 1", "told 2 4 2 5 11 6 12 9 21 10 22");
        test("promise 3: plus has BASES of K times BASES of L", "uniform 0 4 2;plus 0 0 0", x -> due(x.shelf(0, 2), 36));
    }

    private static void cut() {
        makes("r 2 comes to 1", "told 0 3 2 3 4 6 5;cut 1 0", "told 1 3 1 1 4 2 5 4 5");
        refused("r 1", "told 0 3 1 1 4 2 5;cut 1 0");
        makes("the greatest VALUE, below 0", "told 0 3 2 3 -4 6 -5;cut 1 0", "told 1 3 1 1 -4 2 -4 4 -5");
        makes("one BASE", "told 0 3 2 5 9;cut 1 0", "told 1 3 1 1 9 4 9");
        makes("r 7 of n 8", "told 0 8 7 127 -1000000;cut 1 0", "told 1 8 6 63 -1000000 95 -1000000 111 -1000000 119 -1000000"
            + " 123 -1000000 125 -1000000 126 -1000000");
    }

    private static void initial() {
        makes("one of the greatest SUM", "told 0 2 1 1 5 2 4;initial 1 0", "told 1 2 1 1 0");
        makes("all of like SUMS", "told 0 2 1 1 5 2 4;price 1 1;initial 1 0", "told 1 2 1 1 0 2 0");
        makes("SUMS below 0", "told 0 2 1 1 -5 2 -4;initial 1 0", "told 1 2 1 2 0");
        makes("PRICES as they are then", "price 0 7;price 0 0;told 0 2 1 1 5 2 6;initial 1 0;price 0 9", "told 1 2 1 2 0");
        makes("n and r stay", "told 0 8 7 127 5 254 4;initial 1 0", "told 1 8 7 127 0");
    }

    private static void raise() {
        makes("r comes to one less than n", "told 0 3 1 1 4 4 5;raise 1 0", "told 1 3 2 3 4 5 5 6 5");
        refused("r one less than n", "told 0 3 2 3 4 6 5;raise 1 0");
        refused("n 2", "raise 1 0");
        makes("r 6 of n 8", "told 0 8 6 63 -2;raise 1 0", "told 1 8 7 127 -2 191 -2");
        refused("r 7 of n 8", "told 0 8 7 127 -2;raise 1 0");
        makes("what dual, cut, dual make", "told 0 4 2 3 4 9 -6 10 7;dual 1 0;cut 1 1;dual 1 1;raise 2 0",
            "told 2 4 3 7 4 11 7 13 -6 14 7");
        makes("and these make", "told 0 4 2 3 4 9 -6 10 7;dual 1 0;cut 1 1;dual 1 1;raise 2 0",
            "told 1 4 3 7 4 11 7 13 -6 14 7");
    }

    private static void join() {
        makes("r comes to one less than n", "told 0 3 1 1 4;told 1 3 1 2 5;join 2 0 1", "told 2 3 2 3 9");
        refused("r as many as n", "told 0 3 1 1 4;told 1 3 2 6 5;join 2 0 1");
        refused("r more than n", "uniform 0 3 2;join 2 0 0");
        refused("n 2", "join 2 0 1");
        refused("unlike n, K's less", "uniform 1 3 1;join 2 0 1");
        refused("unlike n, K's more", "uniform 1 3 1;join 2 1 0");
        refused("no BASES of unlike ELEMENTS", "told 0 3 1 1 4;join 2 0 0");
        makes("the greatest VALUES together", "told 0 3 1 1 4 2 1;told 1 3 1 1 9 2 5;join 2 0 1", "told 2 3 2 3 10");
        makes("VALUES come to 1000000", "told 0 3 1 1 600000;told 1 3 1 2 400000;join 2 0 1", "told 2 3 2 3 1000000");
        refused("a VALUE of 1000001", "told 0 3 1 1 600000;told 1 3 1 2 400001;join 2 0 1");
        makes("VALUES come to -1000000", "told 0 3 1 1 -600000;told 1 3 1 2 -400000;join 2 0 1", "told 2 3 2 3 -1000000");
        refused("a VALUE of -1000001", "told 0 3 1 1 -600000;told 1 3 1 2 -400001;join 2 0 1");
        makes("of VALUES together only the greatest has bounds", "told 0 3 1 1 -900000 2 0;told 1 3 1 1 0 2 -900000;join 2 0 1",
            "told 2 3 2 3 0");
        refused("one VALUE of two beyond", "told 0 3 1 1 1000000;told 1 3 1 2 1 4 0;join 2 0 1");
        makes("n 8, r 7", "told 0 8 3 7 1;told 1 8 4 120 1;join 2 0 1", "told 2 8 7 127 2");
        makes("SETS that lie in one another are no base", "told 0 4 1 1 4 2 6;told 1 4 2 3 5 12 5;join 2 0 1", "told 2 4 3 13 9 14 11");
    }

    private static void oneByOne() {
        test("promise 3: a refused CLAUSE ends the orders", x -> {
            due(Texts.orders(x, "price 0 3;uniform 0 3 1;cut 0 0;price 0 4;uniform 1 4 1"), 2);
            due(x.price(0, 0), 3);
            due(x.shelf(0, 0), 3);
            due(x.shelf(1, 0), 2);
        });
        test("promise 3: the first CLAUSE refused", x -> {
            due(Texts.orders(x, "cut 0 0;price 0 4"), 0);
            due(x.price(0, 0), 0);
        });
        test("promise 3: the last CLAUSE of sixteen refused", x -> {
            due(Texts.orders(x, "price 0 5;".repeat(15) + "cut 0 0"), 15);
            due(x.price(0, 0), 5);
        });
        test("promise 3: a CLAUSE goes by what those ahead have made", "uniform 0 4 3;by 0 0 0;by 0 0 0", x -> due(x.shelf(0, 0), 2));
        test("promise 3: orders do not undo those ahead", x -> {
            Texts.orders(x, "uniform 0 4 3");
            due(Texts.orders(x, "cut 1 0;cut 1 1;cut 1 1"), 2);
            due(x.shelf(1, 1), 1);
        });
    }

    private static void itself() {
        makes("a SHELF turned over itself", "told 0 3 1 1 4 4 5;dual 0 0", "told 0 3 2 3 5 6 4");
        makes("a SHELF without an ELEMENT itself", "told 0 4 1 1 4 8 5;without 0 0 1", "told 0 3 1 1 4 4 5");
        makes("a SHELF shifted itself", "told 0 3 1 1 4 4 5;price 2 3;shift 0 0", "told 0 3 1 1 4 4 8");
        makes("a SHELF plus itself", "told 0 2 1 1 4 2 5;plus 0 0 0", "told 0 4 2 5 8 6 9 9 9 10 10");
        makes("a SHELF joined with itself", "told 0 3 1 1 4 2 5 4 -6;join 0 0 0", "told 0 3 2 3 9 5 -2 6 -1");
        makes("a SHELF's INITIAL ones itself", "told 0 3 1 1 4 2 5 4 5;initial 0 0", "told 0 3 1 2 0 4 0");
        makes("a SHELF cut itself", "told 0 3 2 3 4;cut 0 0", "told 0 3 1 1 4 2 4");
        makes("a SHELF raised itself", "told 0 3 1 2 4;raise 0 0", "told 0 3 2 3 4 6 4");
        makes("a SHELF by one itself", "told 0 3 2 3 4 6 5;by 0 0 1", "told 0 2 1 1 4 2 5");
    }
}
