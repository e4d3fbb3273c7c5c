import java.lang.reflect.Method;
import java.util.ArrayList;
import java.util.List;
import java.util.Random;

/** Runs of calls by draws on PricedBases and on Plain: each answer must be the same. */
public final class AgainstPlainTest {
    /** Each method with the kinds of its arguments; the number behind w is the highest what. */
    private static final String[] CALLS = {
        "price e p", "shelf s w12", "shelf s w12", "value s t", "base s k70", "fault s k200 w2", "fault s k3 w2", "exchange s b b e",
        "rank s t", "closure s t", "circuit s k60", "greedy s b w3", "greedy s b w3", "arrive s", "initial s w25", "space s",
        "initial s w2",
        "failing s k40", "spanned s w1", "both s s w3", "both s s w3", "potential s s e", "together s w1", "sized s k8",
        "tutte s y y", "share s e w1", "component s e", "quotient s s", "gap s e w1", "tips s e", "stairs s b b w1",
        "told s k300", "onto s s w8", "binary s", "shared s s k8 w2", "game s t", "far s s", "beside s w3", "past k21 w3",
        "walk s k1001 w1", "drawn s k61", "seed x", "count w2", "keep", "undo",
    };
    private static final String[] WORDS = {
        "price", "uniform", "match", "graph", "told", "dual", "without", "by", "shift", "plus", "cut", "initial", "raise",
        "join",
    };
    private static final String SIGNS = "0123456789- ;abcdefghijklmnopqrstuvwxyzA:/`{\u0000\u00ff";

    private final Random draw;
    private final PricedBases one = new PricedBases();
    private final Plain other = new Plain();
    private final List<String> said = new ArrayList<>();
    private int calls = 0;
    private final boolean slow;
    private final int homeN;
    private final int homeR;

    private AgainstPlainTest(long seed) {
        draw = new Random(seed);
        slow = seed % 10 == 0;
        homeN = 2 + draw.nextInt(slow ? 7 : 5);
        homeR = 1 + draw.nextInt(homeN - 1);
    }

    public static void main(String[] args) throws Exception {
        int runs = args.length > 0 ? Integer.parseInt(args[0]) : 600;
        int from = args.length > 1 ? Integer.parseInt(args[1]) : 0;
        long all = 0;
        for (int run = from; run < from + runs; run++) {
            AgainstPlainTest test = new AgainstPlainTest(run);
            if (!test.isRight()) {
                System.out.println("run " + run + " is wrong, its calls:");
                test.said.forEach(System.out::println);
                System.exit(1);
            }
            all += test.calls;
        }
        System.out.println(all + " calls in " + runs + " runs are answered alike");
    }

    private boolean isRight() throws Exception {
        int most = slow ? 120 : 512;
        for (int k = 0; k < 3; k++) {
            if (!orders()) {
                return false;
            }
        }
        while (calls < most) {
            boolean right;
            int kind = draw.nextInt(10);
            if (kind == 0) {
                right = orders();
            } else if (kind == 1 && draw.nextInt(4) == 0) {
                right = check();
            } else if (kind == 2 && draw.nextInt(8) == 0) {
                right = turnedAbout();
            } else {
                right = call(CALLS[draw.nextInt(CALLS.length)]);
            }
            if (!right) {
                return false;
            }
        }
        return true;
    }

    private boolean call(String form) throws Exception {
        if (form.equals("undo") && draw.nextInt(12) != 0) {
            return true;
        }
        String[] parts = form.split(" ");
        Object[] values = new Object[parts.length - 1];
        int shelf = draw.nextInt(4);
        for (int k = 0; k < values.length; k++) {
            int v = argument(parts[k + 1], shelf);
            if (parts[k + 1].equals("s") && v >= 0 && v < 4 && k == 0) {
                shelf = v;
            }
            values[k] = v;
        }
        if (parts[0].equals("onto") && other.shelf((Integer) values[0], 0) == 8 && draw.nextInt(20) != 0) {
            return true;
        }
        return same(parts[0], values);
    }

    private int argument(String kind, int shelf) {
        if (draw.nextInt(60) == 0) {
            int[] odd = {-1, -2, 4, 8, 9, 256, 255, 1000, -1000, Integer.MAX_VALUE, Integer.MIN_VALUE, 65536, 31, 32, 33};
            return odd[draw.nextInt(odd.length)];
        }
        int most = kind.length() > 1 ? Integer.parseInt(kind.substring(1)) : 0;
        int n = other.shelf(shelf, 0);
        switch (kind.charAt(0)) {
            case 's': return draw.nextInt(4);
            case 'e': return draw.nextInt(20) == 0 ? draw.nextInt(9) : draw.nextInt(n);
            case 'p': return draw.nextInt(4) == 0 ? draw.nextInt(2010) - 1005 : draw.nextInt(7) - 3;
            case 'w': return draw.nextInt(most + 1) + (draw.nextInt(40) == 0 ? 1 : 0);
            case 'k': return draw.nextInt(2) == 0 ? draw.nextInt(4) - 1 : draw.nextInt(most + 2) - 1;
            case 't': return draw.nextInt(20) == 0 ? draw.nextInt(260) - 2 : draw.nextInt(1 << n);
            case 'b': return other.base(shelf, draw.nextInt(other.shelf(shelf, 2)));
            case 'y': return draw.nextInt(9) - 3;
            case 'x': return draw.nextInt(65536);
            default: throw new IllegalStateException(kind);
        }
    }

    private boolean same(String name, Object... values) throws Exception {
        Class<?>[] types = new Class<?>[values.length];
        java.util.Arrays.fill(types, int.class);
        Method first = PricedBases.class.getDeclaredMethod(name, types);
        Method second = Plain.class.getDeclaredMethod(name, types);
        Object a = first.invoke(one, values);
        Object b = second.invoke(other, values);
        calls++;
        said.add(name + java.util.Arrays.toString(values) + " answered " + a + (a.equals(b) ? "" : ", due is " + b));
        return a.equals(b);
    }

    private boolean feed(byte[] bytes) throws Exception {
        for (int k = 0; k < bytes.length; k += 20) {
            Object[] five = new Object[5];
            for (int w = 0; w < 5; w++) {
                int four = 0;
                for (int i = 0; i < 4; i++) {
                    int at = k + 4 * w + i;
                    four = four << 8 | (at < bytes.length ? bytes[at] & 255 : draw.nextInt(256));
                }
                five[w] = four;
            }
            if (!same("feed", five)) {
                return false;
            }
        }
        return true;
    }

    private boolean check() throws Exception {
        int many = Math.min(70, draw.nextInt(4) == 0 ? draw.nextInt(80) : other.shelf(0, 2) + draw.nextInt(2));
        byte[] bytes = new byte[many];
        for (int k = 0; k < many; k++) {
            bytes[k] = (byte) Math.max(0, other.base(0, k));
        }
        if (many > 0 && draw.nextInt(3) == 0) {
            bytes[draw.nextInt(many)] += draw.nextInt(3);
        }
        int n = draw.nextInt(6) == 0 ? draw.nextInt(75) - 2 : many;
        return feed(bytes) && same("check", n);
    }

    /** A shelf told with its elements in another order (and sometimes with two values the other way round) is asked by onto. */
    private boolean turnedAbout() throws Exception {
        int from = draw.nextInt(4);
        int to = draw.nextInt(4);
        int n = other.shelf(from, 0);
        List<Integer> row = new ArrayList<>();
        for (int e = 0; e < n; e++) {
            row.add(e);
        }
        java.util.Collections.shuffle(row, draw);
        int bases = other.shelf(from, 2);
        int changed = draw.nextInt(3) == 0 ? draw.nextInt(bases) : -1;
        StringBuilder text = new StringBuilder("told " + to + " " + n + " " + other.shelf(from, 1));
        for (int k = 0; k < bases; k++) {
            int base = other.base(from, k);
            int image = 0;
            for (int e = 0; e < n; e++) {
                image |= (base >> e & 1) << row.get(e);
            }
            text.append(' ').append(image).append(' ').append(other.value(from, k == changed ? other.base(from, 0) : base));
        }
        if (text.length() > 200) {
            return true;
        }
        said.add("text: " + text);
        boolean right = feed(text.toString().getBytes()) && same("orders", text.length());
        for (int what = 0; right && what <= n && n < 8; what++) {
            right = same("onto", from, to, what);
        }
        return right;
    }

    private boolean orders() throws Exception {
        StringBuilder text = new StringBuilder();
        int many = draw.nextInt(10) == 0 ? 17 : 1 + draw.nextInt(5);
        for (int k = 0; k < many; k++) {
            text.append(k > 0 ? ";" : "").append(many == 17 ? shortClause() : clause());
        }
        if (draw.nextInt(5) == 0) {
            for (int k = draw.nextInt(3); k >= 0; k--) {
                spoil(text);
            }
        }
        int length = text.length();
        int n = Math.min(length, draw.nextInt(12) == 0 ? draw.nextInt(length + 2) : 200);
        byte[] bytes = new byte[length];
        for (int k = 0; k < length; k++) {
            bytes[k] = (byte) text.charAt(k);
        }
        said.add("text: " + text);
        return feed(bytes) && same("orders", draw.nextInt(40) == 0 ? draw.nextInt(210) : n);
    }

    private void spoil(StringBuilder text) {
        int at = draw.nextInt(text.length());
        char sign = SIGNS.charAt(draw.nextInt(SIGNS.length()));
        switch (draw.nextInt(4)) {
            case 0: text.setCharAt(at, sign); break;
            case 1: text.insert(at, sign); break;
            case 2: if (text.length() > 1) { text.deleteCharAt(at); } break;
            default: text.append(";".repeat(draw.nextInt(2))).append(draw.nextInt(2) == 0 ? " 1" : "x");
        }
    }

    private String shortClause() {
        switch (draw.nextInt(3)) {
            case 0: return "cut " + draw.nextInt(4) + " " + draw.nextInt(4);
            case 1: return "by " + draw.nextInt(4) + " " + draw.nextInt(4) + " 0";
            default: return "dual " + draw.nextInt(4) + " " + draw.nextInt(4);
        }
    }

    private int odd(int right) {
        return draw.nextInt(400) == 0 ? draw.nextInt(14) - 2 : right;
    }

    private String clause() {
        String word = draw.nextInt(4) == 0 ? "told" : WORDS[draw.nextInt(WORDS.length)];
        int like = draw.nextInt(4);
        int s = odd(draw.nextInt(4));
        int home = draw.nextInt(3);
        int n = odd(home != 0 ? homeN : 2 + draw.nextInt(slow ? 7 : 6));
        int r = odd(home == 1 ? homeR : 1 + draw.nextInt(Math.max(1, n - 1)));
        StringBuilder text = new StringBuilder(word).append(' ');
        switch (word) {
            case "price":
                return text.append(odd(draw.nextInt(8))).append(' ').append(argument("p", like)).toString();
            case "uniform":
                return text.append(s).append(' ').append(n).append(' ').append(r).toString();
            case "match":
                text.append(s).append(' ').append(n).append(' ').append(r);
                for (int k = 0; k < n * r; k++) {
                    text.append(' ').append(draw.nextInt(20) == 0 ? draw.nextInt(2020) - 1010 : draw.nextInt(7) - 3);
                }
                return text.toString();
            case "graph": {
                int v = odd(2 + draw.nextInt(Math.max(1, Math.min(5, n - 1))));
                text.append(s).append(' ').append(n).append(' ').append(v);
                for (int e = 0; e < n; e++) {
                    int a = draw.nextInt(Math.max(1, v));
                    int b = (a + 1 + draw.nextInt(Math.max(1, v - 1))) % Math.max(1, v);
                    text.append(' ').append(odd(a)).append(' ').append(odd(b));
                }
                return text.toString();
            }
            case "told":
                return told(text, s, n, r);
            case "plus": case "join":
                return text.append(s).append(' ').append(like).append(' ').append(odd(draw.nextInt(4))).toString();
            case "without": case "by":
                return text.append(s).append(' ').append(like).append(' ').append(odd(draw.nextInt(8))).toString();
            default:
                return text.append(s).append(' ').append(odd(like)).toString();
        }
    }

    private String told(StringBuilder text, int s, int n, int r) {
        text.append(s).append(' ').append(n).append(' ').append(r);
        List<Integer> sets = new ArrayList<>();
        for (int set = 0; set < 1 << Math.max(0, Math.min(n, 8)); set++) {
            if (Integer.bitCount(set) == r) {
                sets.add(set);
            }
        }
        java.util.Collections.shuffle(sets, draw);
        int many = draw.nextInt(3) == 0 ? sets.size() : 1 + draw.nextInt(Math.max(1, sets.size()));
        int spread = draw.nextInt(3);
        for (int k = 0; k < many && k < sets.size() && text.length() < 180; k++) {
            int value = spread == 0 ? 0 : spread == 1 ? draw.nextInt(5) - 2 : draw.nextInt(2000001) - 1000000;
            text.append(' ').append(sets.get(k)).append(' ').append(value);
        }
        if (draw.nextInt(20) == 0) {
            text.append(' ').append(draw.nextInt(1 << Math.max(1, Math.min(n, 8)))).append(" 0");
        }
        return text.toString();
    }
}
