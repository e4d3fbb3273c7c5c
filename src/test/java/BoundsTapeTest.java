/** Promises 1 to 3 at their bounds: a new object, the tape, how many bytes of it are a text. */
public final class BoundsTapeTest extends Bounds {
    private static final String SEVEN_DIGITS = "price 0000000 0000000";
    private static final int[] TWENTY = {
        15, 23, 27, 29, 30, 39, 43, 45, 46, 51, 53, 54, 57, 58, 60, 71, 75, 77, 78, 83,
    };

    public static void main(String[] args) {
        newObject();
        full();
        order();
        howManyBytes();
        emptied();
        end();
    }

    private static void newObject() {
        test("promise 1: NONE is -1", x -> due(PricedBases.NONE, -1));
        test("promise 1: NO_VALUE is the least int", x -> due(PricedBases.NO_VALUE, -2147483648L));
        for (int s = 0; s < 4; s++) {
            int shelf = s;
            test("promise 1: SHELF " + s + " has n 2, r 1 and two BASES at first", x -> {
                due(x.shelf(shelf, 0), 2);
                due(x.shelf(shelf, 1), 1);
                due(x.shelf(shelf, 2), 2);
            });
            test("promise 1: both VALUES of SHELF " + s + " are 0 at first", x -> {
                due(x.value(shelf, 1), 0);
                due(x.value(shelf, 2), 0);
                due(x.value(shelf, 0), NO_VALUE);
                due(x.value(shelf, 3), NO_VALUE);
            });
        }
        for (int e = 0; e < 8; e++) {
            int element = e;
            test("promise 1: the PRICE of ELEMENT " + e + " is 0 at first", x -> due(x.price(element, 9), 0));
        }
        test("promise 1: the tape is empty at first", x -> due(x.count(0), 0));
        test("promise 1: THE SEED is 1 at first", x -> due(x.count(1), 1));
        test("promise 1: nothing is PAST at first", x -> due(x.past(0, 0), NONE));
        test("promise 1: nothing is KEPT at first", x -> due(x.undo(), false));
        test("promise 1: the 512th call is answered", x -> {
            Texts.feed(x, "uniform 0 4 2");
            due(x.orders(13), 1);
            int[] bases = {3, 5, 6, 9, 10, 12};
            for (int call = 3; call < 512; call++) {
                due(x.base(0, call % 6), bases[call % 6]);
            }
            due(x.told(0, -1), 36);
        });
        test("promise 1: all memory is the desk's own", x -> {
            PricedBases other = new PricedBases();
            Texts.orders(other, "uniform 0 5 2;price 3 8");
            other.seed(9);
            other.keep();
            other.feed(1, 2, 3, 4, 5);
            due(x.shelf(0, 0), 2);
            due(x.count(1), 1);
            due(x.count(0), 0);
            due(x.past(0, 0), NONE);
            due(x.undo(), false);
            due(x.price(3, 0), 0);
            due(other.shelf(0, 0), 5);
        });
    }

    private static int fedTimes(PricedBases x, int times) {
        int last = 0;
        for (int k = 0; k < times; k++) {
            last = x.feed(0, 0, 0, 0, 0);
        }
        return last;
    }

    private static void full() {
        test("promise 2: twenty bytes come onto an empty tape", x -> due(fedTimes(x, 1), 20));
        test("promise 2: twenty come behind twenty", x -> due(fedTimes(x, 2), 40));
        test("promise 2: the tape takes 240 bytes", x -> due(fedTimes(x, 12), 240));
        test("promise 2: more than 240 are refused", x -> due(fedTimes(x, 13), NONE));
        test("promise 2: a refused feed leaves 240 bytes", x -> {
            fedTimes(x, 13);
            due(x.count(0), 240);
        });
        test("promise 2: a refused feed leaves the bytes as they were", x -> {
            Texts.feed(x, "price 6 33");
            fedTimes(x, 11);
            due(x.feed(-1, -1, -1, -1, -1), NONE);
            due(x.orders(10), 1);
            due(x.price(6, 0), 33);
        });
        test("promise 2: it is fed again behind a refused feed, when it is empty", x -> {
            fedTimes(x, 13);
            x.orders(1);
            due(fedTimes(x, 1), 20);
        });
    }

    private static void feedBytes(PricedBases x, int[] bytes) {
        int[] w = new int[5];
        for (int k = 0; k < 20; k++) {
            w[k / 4] = w[k / 4] << 8 | bytes[k] & 255;
        }
        x.feed(w[0], w[1], w[2], w[3], w[4]);
    }

    private static void order() {
        test("promise 2: all twenty bytes come in their order", "uniform 0 8 4", x -> {
            feedBytes(x, TWENTY);
            due(x.check(20), NONE);
        });
        for (int k = 0; k < 20; k++) {
            int at = k;
            test("promise 2: byte " + k + " of twenty has its own place", "uniform 0 8 4", x -> {
                int[] other = TWENTY.clone();
                other[at]++;
                feedBytes(x, other);
                due(x.check(20), at);
            });
        }
        test("promise 2: the highest byte of an int is the first", x -> {
            x.feed(0x01020000, 0, 0, 0, 0);
            due(x.check(2), NONE);
        });
        test("promise 2: bytes above 127, of ints below 0, are as they are", "uniform 0 8 7", x -> {
            x.feed(0x7fbfdfef, 0xf7fbfdfe, 0, 0, 0);
            due(x.check(8), NONE);
        });
        test("promise 2: what is fed later comes behind", x -> {
            Texts.feed(x, "price 0 1;price 1 2;");
            Texts.feed(x, "price 2 3");
            due(x.orders(29), 3);
            due(x.price(2, 0), 3);
        });
    }

    /** Nine clauses, three of them longer by a minus. */
    private static String twoHundred() {
        String minus = SEVEN_DIGITS.replace(" 0000000", " -0000000").replace("price -", "price ");
        StringBuilder text = new StringBuilder("price 0000007 0000077");
        for (int k = 0; k < 8; k++) {
            text.append(';').append(k < 3 ? minus : SEVEN_DIGITS);
        }
        return text.toString();
    }

    private static void howManyBytes() {
        Call asks = PricedBases::orders;
        bounds("promise 3: of twenty bytes, n", "", (x, n) -> {
            Texts.feed(x, "price 0 0;price 0 00");
            return x.orders(n);
        }, at(1, -1000, 9, 1, 10, -1010, 20, 2), NONE, 0, -1, 21, 200, 201, SMALL, BIG);
        bounds("promise 3: of an empty tape, n", "", asks, at(), NONE, 0, 1, -1);
        test("promise 3: a text has 200 bytes", x -> {
            due(twoHundred().length(), 200);
            due(Texts.orders(x, twoHundred()), 9);
            due(x.price(7, 0), 77);
        });
        test("promise 3: 200 bytes of 240", x -> {
            Texts.feed(x, twoHundred());
            fedTimes(x, 2);
            due(x.orders(200), 9);
        });
        test("promise 3: a text has not 201 bytes", x -> {
            Texts.feed(x, twoHundred() + ";price 0 0");
            due(x.count(0), 220);
            due(x.orders(201), NONE);
        });
        test("promise 3: 201 bytes are refused before the text is looked at", x -> {
            fedTimes(x, 11);
            due(x.orders(201), NONE);
            due(x.orders(200), -1000);
        });
        test("promise 3: of 180 bytes 181 are refused", x -> {
            fedTimes(x, 9);
            due(x.orders(181), NONE);
            due(x.orders(180), -1000);
        });
    }

    private static void emptied() {
        test("promise 3: the tape is empty when the orders are done", x -> {
            Texts.orders(x, "price 0 0");
            due(x.count(0), 0);
        });
        test("promise 3: what is behind the n bytes is gone, too", x -> {
            Texts.feed(x, "price 0 1;price 1 2;price 2 3;price 3 4");
            due(x.orders(9), 1);
            due(x.count(0), 0);
            due(x.feed(0, 0, 0, 0, 0), 20);
            due(x.price(1, 0), 0);
        });
        test("promise 3: the tape is empty behind a FAULT", x -> {
            Texts.orders(x, "price 0 x");
            due(x.count(0), 0);
        });
        test("promise 3: the tape is empty behind a refused CLAUSE", x -> {
            due(Texts.orders(x, "cut 0 0"), 0);
            due(x.count(0), 0);
        });
        test("promise 3: the tape stays when it has not so many", x -> {
            Texts.feed(x, "price 5 21");
            due(x.orders(21), NONE);
            due(x.count(0), 20);
            due(x.orders(10), 1);
            due(x.price(5, 0), 21);
        });
        test("promise 3: the tape stays when there is no such n", x -> {
            Texts.feed(x, "price 5 21");
            due(x.orders(0), NONE);
            due(x.orders(-1), NONE);
            due(x.count(0), 20);
            due(x.orders(10), 1);
            due(x.price(5, 0), 21);
        });
    }
}
