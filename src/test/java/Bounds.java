import java.util.HashSet;
import java.util.Set;
import java.util.function.Consumer;

/** Tests of one sentence of the document each: a name that begins with the promise, and a desk of its own. */
abstract class Bounds {
    static final int NONE = -1;
    static final int NO_VALUE = -2147483648;
    static final int BIG = 2147483647;
    static final int SMALL = -2147483648;

    private static final Set<String> NAMES = new HashSet<>();
    private static String name = "";
    private static boolean right = true;
    private static int failed = 0;

    /** A call by one argument, all others being right. */
    interface Call {
        long of(PricedBases x, int argument);
    }

    static void test(String named, Consumer<PricedBases> body) {
        test(named, "", body);
    }

    /** The text's clauses must all be done before the body is asked. */
    static void test(String named, String text, Consumer<PricedBases> body) {
        name = named;
        right = true;
        if (!named.startsWith("promise ") || !NAMES.add(named)) {
            wrong("the name names no promise, or is there twice");
        }
        try {
            PricedBases x = new PricedBases();
            if (!text.isEmpty()) {
                due(Texts.orders(x, text), Texts.clauses(text));
            }
            body.accept(x);
        } catch (RuntimeException thrown) {
            wrong("throws " + thrown);
        }
        failed += right ? 0 : 1;
    }

    /** A test for each argument with its answer (taken: argument, answer, ..) and for each that is refused. */
    static void bounds(String named, String text, Call call, long[] taken, long refusal, int... refused) {
        for (int k = 0; k + 1 < taken.length; k += 2) {
            int argument = (int) taken[k];
            long answer = taken[k + 1];
            test(named + " " + argument + " is taken", text, x -> due(call.of(x, argument), answer));
        }
        for (int argument : refused) {
            test(named + " " + argument + " is refused", text, x -> due(call.of(x, argument), refusal));
        }
    }

    static long[] at(long... pairs) {
        return pairs;
    }

    static void due(long got, long want) {
        if (got != want) {
            wrong("answered " + got + ", due is " + want);
        }
    }

    static void due(boolean got, boolean want) {
        due(got ? 1 : 0, want ? 1 : 0);
    }

    static void due(String got, String want) {
        if (!got.equals(want)) {
            wrong("told\n  " + got + "\ndue is\n  " + want);
        }
    }

    /** A SHELF as a CLAUSE, as the desk tells it. */
    static String told(PricedBases x, int s) {
        StringBuilder text = new StringBuilder();
        int bytes = x.told(s, -1);
        for (int i = 0; i < bytes; i++) {
            text.append((char) x.told(s, i));
        }
        return text.toString();
    }

    private static void wrong(String what) {
        right = false;
        System.out.println(name + ": " + what);
    }

    static void end() {
        System.out.println(NAMES.size() + " tests, " + failed + " failed");
        if (failed != 0) {
            System.exit(1);
        }
    }
}
