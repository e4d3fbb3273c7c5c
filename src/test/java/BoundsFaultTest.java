/** Promise 3 at its bounds: what a text may be, and its FAULTS with their places. */
public final class BoundsFaultTest extends Bounds {
    private static final String[] WHOLE = {
        "price 0 0", "uniform 0 2 1", "match 0 2 1 0 0", "graph 0 2 2 0 1 0 1", "told 0 2 1 1 0", "dual 0 0", "without 0 0 0",
        "by 0 0 0", "shift 0 0", "plus 0 0 0", "cut 0 0", "initial 0 0", "raise 0 0", "join 0 0 0",
    };

    public static void main(String[] args) {
        words();
        blanks();
        signs();
        wholeClauses();
        digits();
        priceAndShelf();
        heads();
        numbersOfClauses();
        asked();
        tooMany();
        edges();
        sets();
        firstFromTheLeft();
        nothingIsDone();
        end();
    }

    /** A FAULT: minus 1000 times its number, less its place. */
    private static void fault(String text, int want) {
        test("promise 3: FAULT of \"" + text + "\"", x -> due(Texts.orders(x, text), want));
    }

    private static void noFault(String text) {
        int many = Texts.clauses(text);
        test("promise 3: no FAULT of \"" + text + "\"", x -> due(Texts.orders(x, text), many));
    }

    private static void words() {
        fault("p", -1000);
        fault("pricee 0 0", -1000);
        fault("pricea 0 0", -1000);
        fault("pricez 0 0", -1000);
        fault("price` 0 0", -1005);
        fault("price{ 0 0", -1005);
        fault("priceE 0 0", -1005);
        fault("Price 0 0", -1000);
        fault("PRICE 0 0", -1000);
        fault("{rice 0 0", -1000);
        fault(" price 0 0", -1000);
        fault("0", -1000);
        fault("-", -1000);
        fault("q", -1000);
        fault("pl", -1000);
        fault("joinx 0 0 0", -1000);
        fault("price 0 0;pricee 0 0", -1010);
        fault("price 0 0; price 0 0", -1010);
        fault("price 0 0;cut 0 0;Cut 0 0", -1018);
        fault("\u00f0rice 0 0", -1000);
        for (String whole : WHOLE) {
            String word = whole.substring(0, whole.indexOf(' '));
            String behind = whole.substring(word.length());
            fault(word, -1000 - word.length());
            fault(word.substring(1) + behind, -1000);
            fault("z" + word.substring(1) + behind, -1000);
            fault(word.substring(0, word.length() - 1) + behind, -1000);
            fault(word.substring(0, word.length() - 1) + "z" + behind, -1000);
        }
        fault("price\u00e9 0 0", -1005);
        fault("\u0000", -1000);
    }

    private static void blanks() {
        fault("price0 0", -1005);
        fault("price-0 0", -1005);
        fault("price  0 0", -1006);
        fault("price 0  0", -1008);
        fault("price 0 0 ", -1009);
        fault("price 0 0 ;price 0 0", -1009);
        fault("price\t0 0", -1005);
        fault("price!0 0", -1005);
        fault("price 0,0", -1007);
        fault("price 0-0", -1007);
        fault("told 0 2 1 1 0 ", -1015);
        fault("told 0 2 1 1 0  2 0", -1015);
        fault("price\u00a00 0", -1005);
    }

    private static void signs() {
        fault(";", -1000);
        fault(";price 0 0", -1000);
        fault("price 0 0;;price 0 0", -1010);
        fault("price 0 0:price 0 0", -1009);
        fault("price 0 0,price 0 0", -1009);
        fault("price 0 0\u00bbprice 0 0", -1009);
        fault("price 0 0\u0000", -1009);
        fault("price 0 0\u00ff", -1009);
        fault("price 0;0", -1007);
        fault("price;0 0", -1005);
        fault("told 0 2 1;", -1010);
        fault("told 0 2 1 1;", -1012);
    }

    /** Each kind of clause: it stands, its last number is missing, there is one number more. */
    private static void wholeClauses() {
        for (String whole : WHOLE) {
            int last = whole.lastIndexOf(' ');
            test("promise 3: \"" + whole + "\" is a text", x -> {
                int done = Texts.orders(x, whole);
                due(done == 0 || done == 1, true);
            });
            fault(whole.substring(0, last), -1000 - last);
            fault(whole.substring(0, last + 1), -1001 - last);
            fault(whole.substring(0, last) + ";price 0 0", -1000 - last);
            fault(whole + "x", -1000 - whole.length());
            fault(whole + ";", -1001 - whole.length());
            if (!whole.startsWith("told")) {
                fault(whole + " 0", -1000 - whole.length());
            }
        }
        noFault("told 0 2 1 1 0 2 0");
        fault("told 0 2 1", -1010);
        fault("told 0 2 1 1 0 2", -1016);
        fault("match 0 3 2 0 0 0 0 0", -1021);
        noFault("match 0 3 2 0 0 0 0 0 0");
        fault("match 0 3 2 0 0 0 0 0 0 0", -1023);
        fault("graph 0 3 2 0 1 0 1 0", -1021);
        noFault("graph 0 3 2 0 1 0 1 0 1");
        fault("graph 0 3 2 0 1 0 1 0 1 0 1", -1023);
    }

    private static void digits() {
        noFault("price 0000007 -0001000");
        noFault("price 0 0000000");
        noFault("price -0 -0000000");
        noFault("told 0000000 0000002 0000001 0000001 1000000");
        noFault("told 0 2 1 1 -1000000");
        fault("price 0 00000000", -2015);
        fault("price 0 -00000000", -2016);
        fault("price 00000000 0", -2013);
        fault("price 0 000000000", -2015);
        fault("told 0 2 1 1 10000000", -2020);
        fault("told 0 2 1 00000001 0", -2018);
        fault("uniform 0 00000002 1", -2017);
        fault("uniform 0 2 00000001", -2019);
        fault("price 0 /", -1008);
        fault("price 0 :", -1008);
        fault("price / 0", -1006);
        fault("price 0 0/", -1009);
        fault("price 0 0:", -1009);
        noFault("price 0 9");
        fault("price 0 +1", -1008);
        fault("price 0 -", -1009);
        fault("price 0 --1", -1009);
        fault("price 0 - 1", -1009);
        fault("price 0 1-", -1009);
        fault("price 0 -1-", -1010);
        fault("price -", -1007);
        fault("price 0 \u00b0", -1008);
        fault("price 0 1\u00b0", -1009);
        fault("price 0 1.5", -1009);
    }

    private static void priceAndShelf() {
        noFault("price 7 0");
        fault("price 8 0", -3006);
        fault("price -1 0", -3006);
        fault("price 9999999 0", -3006);
        fault("price -9999999 0", -3006);
        noFault("price 0 1000");
        noFault("price 0 -1000");
        fault("price 0 1001", -3008);
        fault("price 0 -1001", -3008);
        fault("price 0 9999999", -3008);
        fault("price 0 -9999999", -3008);
        for (String whole : WHOLE) {
            if (!whole.startsWith("price")) {
                int at = whole.indexOf(' ') + 1;
                String behind = whole.substring(at + 1);
                fault(whole.substring(0, at) + 4 + behind, -3000 - at);
                fault(whole.substring(0, at) + -1 + behind, -3000 - at);
                test("promise 3: S 3 of \"" + whole + "\"", x -> {
                    int done = Texts.orders(x, whole.substring(0, at) + 3 + behind);
                    due(done == 0 || done == 1, true);
                });
            }
        }
    }

    private static void heads() {
        noFault("uniform 0 2 1");
        fault("uniform 0 1 1", -3010);
        fault("uniform 0 0 1", -3010);
        fault("uniform 0 -2 1", -3010);
        noFault("uniform 0 8 7");
        noFault("uniform 0 8 1");
        fault("uniform 0 9 1", -3010);
        fault("uniform 0 8 8", -3012);
        fault("uniform 0 8 0", -3012);
        fault("uniform 0 8 -1", -3012);
        fault("uniform 0 2 2", -3012);
        fault("uniform 0 2 0", -3012);
        noFault("uniform 0 5 4");
        fault("uniform 0 5 5", -3012);
        fault("match 0 1 1 0", -3008);
        fault("match 0 9 1 0", -3008);
        fault("match 0 2 2 0 0 0 0", -3010);
        fault("match 0 2 0", -3010);
        fault("told 0 1 1 1 0", -3007);
        fault("told 0 9 1 1 0", -3007);
        fault("told 0 3 3 7 0", -3009);
        fault("told 0 3 0 0 0", -3009);
        fault("graph 0 1 2 0 1", -3008);
        fault("graph 0 9 2 0 1", -3008);
        noFault("graph 0 2 2 0 1 1 0");
        fault("graph 0 2 1 0 0 0 0", -3010);
        fault("graph 0 2 0 0 0 0 0", -3010);
        noFault("graph 0 8 6 0 1 1 2 2 3 3 4 4 5 5 0 0 2 1 3");
        fault("graph 0 8 7 0 1 1 2 2 3 3 4 4 5 5 6 0 2 1 3", -3010);
    }

    private static void numbersOfClauses() {
        noFault("match 0 2 1 999 -999");
        fault("match 0 2 1 1000 0", -3012);
        fault("match 0 2 1 -1000 0", -3012);
        fault("match 0 2 1 0 1000", -3014);
        fault("match 0 2 1 0 -1000", -3014);
        fault("match 0 3 2 0 0 0 0 0 1000", -3022);
        noFault("told 0 2 1 1 1000000 2 -1000000");
        fault("told 0 2 1 1 1000001", -3013);
        fault("told 0 2 1 1 -1000001", -3013);
        fault("told 0 2 1 1 0 2 1000001", -3017);
        noFault("told 0 8 7 254 0");
        noFault("told 0 8 1 128 0 1 0");
        fault("told 0 8 7 255 0", -6011);
        fault("told 0 8 7 256 0", -3011);
        fault("told 0 8 1 256 0", -3011);
        fault("told 0 8 7 -1 0", -3011);
        fault("told 0 2 1 -1 0", -3011);
        fault("told 0 2 1 0 0", -6011);
        for (String one : new String[] {"dual", "shift", "cut", "initial", "raise"}) {
            int at = one.length() + 3;
            fault(one + " 0 4", -3000 - at);
            fault(one + " 0 -1", -3000 - at);
        }
        for (String two : new String[] {"plus", "join"}) {
            fault(two + " 0 4 0", -3007);
            fault(two + " 0 -1 0", -3007);
            fault(two + " 0 0 4", -3009);
            fault(two + " 0 0 -1", -3009);
        }
        noFault("uniform 3 4 2;dual 0 3;shift 0 3;cut 0 3;initial 0 3;raise 0 3;without 0 3 0;by 0 3 0;plus 0 3 3");
        noFault("uniform 3 4 1;join 0 3 3");
        fault("without 0 4 0", -3010);
        fault("without 0 -1 0", -3010);
        fault("without 0 0 8", -3012);
        fault("without 0 0 -1", -3012);
        noFault("uniform 0 8 4;without 1 0 7;by 2 0 7");
        fault("by 0 4 0", -3005);
        fault("by 0 -1 0", -3005);
        fault("by 0 0 8", -3007);
        fault("by 0 0 -1", -3007);
    }

    /** A number is asked whether it is one of those told when it ends, whatever ends it. */
    private static void asked() {
        fault("price 8", -3006);
        fault("price 8x", -3006);
        fault("price 8;", -3006);
        fault("price 8-", -3006);
        fault("price 80", -3006);
        fault("price 8000000 0", -3006);
        fault("price 80000000 0", -2013);
        fault("price -8000000 0", -3006);
        fault("price -80000000 0", -2014);
        fault("price 0 1001x", -3008);
        fault("price 0 1000x", -1012);
        fault("uniform 3", -1009);
        fault("uniform 0 9", -3010);
    }

    private static String cuts(int many) {
        return "cut 0 0;".repeat(many);
    }

    private static void tooMany() {
        test("promise 3: sixteen CLAUSES are done", x -> {
            String text = "price 0 1;price 1 1;price 2 1;price 3 1;price 4 1;price 5 1;price 6 1;price 7 1";
            due(Texts.orders(x, text + ";" + text), 16);
        });
        test("promise 3: sixteen are no FAULT", x -> due(Texts.orders(x, cuts(15) + "cut 0 0"), 0));
        fault(cuts(16), -4128);
        fault(cuts(16) + "cut 0 0", -4128);
        fault(cuts(16) + "price 0 0", -4128);
        fault(cuts(16) + "x", -4128);
        fault(cuts(16) + "0", -4128);
        fault(cuts(16) + " ", -4128);
        fault(cuts(16) + ";", -4128);
        fault(cuts(16) + "price 9 0;;", -4128);
        fault(cuts(16) + "\u00ff", -4128);
        fault(cuts(17) + "cut 0 0", -4128);
        fault(cuts(15) + "cut 0 0 ", -1127);
        fault(cuts(15) + "cut 0 4;cut 0 0", -3126);
        fault(cuts(15) + "cur 0 0;cut 0 0", -1120);
        fault("price 0 0;" + cuts(15) + "cut 0 0", -4130);
        fault(cuts(15), -1120);
    }

    private static void edges() {
        fault("graph 0 2 2 0 0 0 1", -6014);
        fault("graph 0 2 2 1 1 0 1", -6014);
        fault("graph 0 2 2 0 1 1 1", -6018);
        fault("graph 0 2 2 0 -0 0 1", -6014);
        fault("graph 0 2 2 0 0x", -6014);
        fault("graph 0 2 2 0 0", -6014);
        fault("graph 0 2 2 2 2 0 1", -3012);
        fault("graph 0 2 2 0 2 0 1", -3014);
        fault("graph 0 2 2 2 0 0 1", -3012);
        fault("graph 0 2 2 -1 0 0 1", -3012);
        fault("graph 0 2 2 0 -1 0 1", -3014);
        fault("graph 0 3 3 0 1 1 2 2 3", -3022);
        noFault("graph 0 3 3 0 1 1 2 2 0");
        fault("graph 0 6 6 0 1 1 2 2 3 3 4 4 5 5 6", -3034);
        noFault("graph 0 6 6 0 1 1 2 2 3 3 4 4 5 5 0");
        fault("graph 0 6 6 0 1 1 2 2 3 3 4 4 5 5 5", -6034);
        fault("graph 0 2 2 1 00000001 0 1", -2021);
        noFault("graph 0 2 2 0000000 0000001 1 0");
    }

    private static void sets() {
        fault("told 0 4 2 1 0", -6011);
        fault("told 0 4 2 7 0", -6011);
        noFault("told 0 4 2 12 0");
        fault("told 0 4 2 17 0", -6011);
        fault("told 0 4 2 20 0", -6011);
        fault("told 0 2 1 4 0", -6011);
        fault("told 0 7 1 128 0", -6011);
        noFault("told 0 7 1 64 0");
        fault("told 0 2 1 1 0 1 0", -6015);
        fault("told 0 2 1 1 5 1 9", -6015);
        fault("told 0 4 2 3 0 5 0 6 0 3 0", -6023);
        fault("told 0 4 2 3 0 5 0 6 0 6 0", -6023);
        fault("told 0 4 2 3 0 0000003 0", -6015);
        noFault("told 0 4 2 3 5 5 6 6 3");
        noFault("told 3 2 1 2 1 1 2");
        noFault("told 0 2 1 1 0;told 0 2 1 1 0");
        noFault("told 0 8 1 1 1 2 1 4 1 8 1 16 1 32 1 64 1 128 1");
        fault("told 0 8 1 1 1 2 1 4 1 8 1 16 1 32 1 64 1 128 1 1 1", -6048);
        fault("told 0 4 2 1", -6011);
        fault("told 0 4 2 1x", -6011);
        fault("told 0 4 2 256 0", -3011);
        fault("told 0 4 2 00000001 0", -2018);
        fault("told 0 4 2 3 0 5 0 1 0", -6019);
    }

    private static void firstFromTheLeft() {
        fault("price 8 1001", -3006);
        fault("price 0 1001;xyz", -3008);
        fault("xyz;price 8 0", -1000);
        fault("told 0 2 1 3 1000001", -6011);
        fault("told 0 2 1 1 1000001 3 0", -3013);
        fault("graph 0 2 2 0 0 0 5", -6014);
        fault("graph 0 2 2 0 5 0 0", -3014);
        fault("uniform 4 9 9", -3008);
        fault("uniform 0 9 9", -3010);
        fault("price 8 00000000", -3006);
        fault("price 0 00000000;xyz", -2015);
        fault("price 0 0 0;price 8 0", -1009);
        fault("without 9 9 9", -3008);
    }

    private static void nothingIsDone() {
        String[] behind = {";price 2 1001", ";", ";price 2 00000000", ";graph 0 2 2 0 0 0 1", "x"};
        for (String spoilt : behind) {
            test("promise 3: by a FAULT nothing is done: \"price 2 9;uniform 1 5 2" + spoilt + "\"", x -> {
                due(Texts.orders(x, "price 2 9;uniform 1 5 2" + spoilt) < -1000, true);
                due(x.shelf(1, 0), 2);
                due(x.past(0, 0), NONE);
                due(x.price(2, 0), 0);
            });
        }
        test("promise 3: by a CLAUSE too many nothing is done", x -> {
            String text = "price 0 1;price 1 1;price 2 1;price 3 1;price 4 1;price 5 1;price 6 1;price 7 1";
            due(Texts.orders(x, text + ";" + text + ";price 0 3"), -4160);
            due(x.price(0, 0), 0);
        });
        test("promise 3: the orders behind a FAULT are read from their own beginning", x -> {
            Texts.orders(x, "price 2 9;price 2 x");
            due(Texts.orders(x, "price 3 9"), 1);
            due(x.price(3, 0), 9);
        });
    }
}
