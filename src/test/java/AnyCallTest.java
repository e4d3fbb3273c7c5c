import java.lang.reflect.InvocationTargetException;
import java.lang.reflect.Method;
import java.lang.reflect.Modifier;
import java.util.ArrayList;
import java.util.Comparator;
import java.util.List;
import java.util.Random;

/** Any arguments in any state: no call throws. */
public final class AnyCallTest {
    private static final int[] ODD = {
        Integer.MIN_VALUE, Integer.MIN_VALUE + 1, Integer.MAX_VALUE, Integer.MAX_VALUE - 1, -1, -2, 0, 1, 2, 3, 4, 5, 7, 8,
        9, 12, 15, 16, 19, 20, 31, 32, 33, 63, 64, 69, 70, 71, 200, 201, 239, 240, 241, 255, 256, 257, 1000, 1001, -1000,
        65535, 65536, 1 << 30, -(1 << 30),
    };
    private static final String[] TEXTS = {
        "match 0 8 4 1 2 3 4 5 6 7 8 2 3 4 5 6 7 8 9 1 1 1 1 2 2 2 2 9 8 7 6 5 4 3 2", "told 1 8 4 15 0 240 0 60 5 195 5",
        "uniform 2 8 7;told 3 8 1 1 1000000 2 -1000000", "graph 3 8 6 0 1 1 2 2 3 3 4 4 5 5 0 0 2 1 3", "told 0 3 2 6 4",
        "dual 1 0;raise 1 1;cut 2 1;join 3 1 1;shift 0 0;initial 1 1", "by 0 0 2;without 1 1 0;plus 3 0 0", "raise 0 0",
        "told 0 8 1 1 0 1 0", "price 0 12345678", "match 0 9999999 9999999 1", "told 0 8 9999999 1 1", "graph 0 8 9999999 1 2",
    };

    public static void main(String[] args) throws Exception {
        List<Method> methods = new ArrayList<>();
        for (Method m : PricedBases.class.getDeclaredMethods()) {
            if (Modifier.isPublic(m.getModifiers())) {
                methods.add(m);
            }
        }
        methods.sort(Comparator.comparing(Method::getName));
        Random draw = new Random(7);
        for (int run = 0; run < 300; run++) {
            PricedBases x = new PricedBases();
            for (int call = 0; call < 700; call++) {
                if (call % 20 == 0) {
                    text(x, TEXTS[draw.nextInt(TEXTS.length)]);
                }
                call(x, methods.get(draw.nextInt(methods.size())), draw);
            }
        }
        System.out.println("no call throws");
    }

    private static void call(PricedBases x, Method m, Random draw) throws Exception {
        Object[] values = new Object[m.getParameterCount()];
        for (int k = 0; k < values.length; k++) {
            values[k] = draw.nextInt(3) == 0 ? draw.nextInt() : ODD[draw.nextInt(ODD.length)];
            if (draw.nextInt(2) == 0) {
                values[k] = draw.nextInt(5);
            }
        }
        try {
            m.invoke(x, values);
        } catch (InvocationTargetException e) {
            System.out.println(m.getName() + java.util.Arrays.toString(values) + " throws " + e.getCause());
            System.exit(1);
        }
    }

    private static void text(PricedBases x, String text) {
        for (int k = 0; k < 12 && x.count(0) != 0; k++) {
            x.orders(1);
        }
        Texts.orders(x, text);
    }
}
