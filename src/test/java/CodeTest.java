import java.io.ByteArrayInputStream;
import java.io.DataInputStream;
import java.io.IOException;
import java.io.InputStream;
import java.util.HashMap;
import java.util.HashSet;
import java.util.LinkedHashSet;
import java.util.Map;
import java.util.Set;

/** What of LANGUAGE.md can be seen in what javac makes of the class: what is called, what is made, how deep calls go. */
public final class CodeTest {
    private static final Set<String> LIBRARY = Set.of(
        "java/lang/Object.<init>", "java/lang/Math.max", "java/lang/Math.min", "java/lang/Math.abs",
        "java/lang/Integer.bitCount", "java/lang/String.length", "java/lang/String.charAt",
        "java/lang/System.arraycopy", "java/util/Arrays.fill");
    private static final int MOST_DEEP = 8;
    private static final int MOST_FIELDS = 20;
    private static final int STATIC = 8;
    private static final int FINAL = 16;

    private static final int TABLE_SWITCH = 170;
    private static final int LOOKUP_SWITCH = 171;
    private static final int WIDE = 196;
    private static final int IINC = 132;

    private static final Map<String, Set<String>> CALLS = new HashMap<>();
    private static int wrong = 0;

    private final String owner;
    private final DataInputStream in;
    private Object[] pool = new Object[0];

    private CodeTest(String owner, DataInputStream in) {
        this.owner = owner;
        this.in = in;
    }

    public static void main(String[] args) throws IOException {
        read("PricedBases");
        for (Class<?> inside : PricedBases.class.getDeclaredClasses()) {
            read(inside.getName());
        }
        int deepest = 0;
        for (String method : CALLS.keySet()) {
            deepest = Math.max(deepest, depth(method, new HashSet<>()));
        }
        check(deepest <= MOST_DEEP, "calls go " + deepest + " deep");
        check(CALLS.size() > 150, "too few methods were read: " + CALLS.size());
        System.out.println(CALLS.size() + " methods, calls go " + deepest + " deep, " + wrong + " breaches");
        if (wrong != 0) {
            System.exit(1);
        }
    }

    private static void check(boolean right, String what) {
        if (!right) {
            wrong++;
            System.out.println(what);
        }
    }

    private static int depth(String method, Set<String> open) {
        if (!open.add(method)) {
            check(false, "calls itself: " + method);
            return 0;
        }
        int deepest = 0;
        for (String called : CALLS.getOrDefault(method, Set.of())) {
            deepest = Math.max(deepest, depth(called, open));
        }
        open.remove(method);
        return deepest + 1;
    }

    private static void read(String name) throws IOException {
        try (InputStream file = CodeTest.class.getResourceAsStream("/" + name + ".class")) {
            new CodeTest(name, new DataInputStream(file)).readClass();
        }
    }

    private void readClass() throws IOException {
        in.readInt();
        in.readInt();
        readPool();
        in.skipBytes(6);
        in.skipBytes(2 * in.readUnsignedShort());
        int fields = 0;
        int allFields = in.readUnsignedShort();
        for (int k = 0; k < allFields; k++) {
            int how = in.readUnsignedShort();
            Object name = pool[in.readUnsignedShort()];
            in.skipBytes(2);
            skipAttributes();
            fields += (how & STATIC) == 0 ? 1 : 0;
            check((how & STATIC) == 0 || (how & FINAL) != 0, "a static field that is not final: " + owner + "." + name);
        }
        check(fields <= MOST_FIELDS, fields + " fields: " + owner);
        int methods = in.readUnsignedShort();
        for (int k = 0; k < methods; k++) {
            readMethod();
        }
    }

    private void readPool() throws IOException {
        int size = in.readUnsignedShort();
        pool = new Object[size];
        for (int k = 1; k < size; k++) {
            int tag = in.readUnsignedByte();
            switch (tag) {
                case 1: pool[k] = in.readUTF(); break;
                case 7: case 8: case 16: case 19: case 20: pool[k] = new int[] {in.readUnsignedShort()}; break;
                case 9: case 10: case 11: case 12: case 17: case 18:
                    pool[k] = new int[] {in.readUnsignedShort(), in.readUnsignedShort()};
                    break;
                case 3: case 4: in.skipBytes(4); break;
                case 5: case 6: in.skipBytes(8); k++; break;
                case 15: in.skipBytes(3); break;
                default: throw new IOException("a tag of no kind: " + tag);
            }
        }
    }

    private String text(int at) {
        return (String) pool[at];
    }

    /** Owner and name of the method or field that stands at a place of the pool. */
    private String member(int at) {
        int[] reference = (int[]) pool[at];
        String of = text(((int[]) pool[reference[0]])[0]);
        return of + "." + text(((int[]) pool[reference[1]])[0]);
    }

    private void skipAttributes() throws IOException {
        int many = in.readUnsignedShort();
        for (int k = 0; k < many; k++) {
            in.skipBytes(2);
            in.skipBytes(in.readInt());
        }
    }

    private void readMethod() throws IOException {
        in.skipBytes(2);
        String name = owner + "." + text(in.readUnsignedShort());
        in.skipBytes(2);
        int many = in.readUnsignedShort();
        for (int k = 0; k < many; k++) {
            boolean code = text(in.readUnsignedShort()).equals("Code");
            byte[] bytes = in.readNBytes(in.readInt());
            if (code) {
                readCode(name, new DataInputStream(new ByteArrayInputStream(bytes)));
            }
        }
    }

    private void readCode(String method, DataInputStream code) throws IOException {
        code.skipBytes(4);
        byte[] ops = code.readNBytes(code.readInt());
        check(code.readUnsignedShort() == 0, "catches: " + method);
        Set<String> calls = CALLS.computeIfAbsent(method, key -> new LinkedHashSet<>());
        for (int at = 0; at < ops.length; at += size(ops, at)) {
            look(method, ops, at, calls);
        }
    }

    private void look(String method, byte[] ops, int at, Set<String> calls) {
        int op = ops[at] & 255;
        boolean making = op == 187 || op == 188 || op == 189 || op == 197;
        check(!making || method.endsWith(".<init>") || method.endsWith(".<clinit>"), "makes an object: " + method);
        check(op != 191, "throws: " + method);
        check(op != 186, "a call that javac makes up: " + method);
        check(op != 194 && op != 195, "synchronized: " + method);
        check(op != 192 && op != 193, "casts or asks for a class: " + method);
        if (op >= 182 && op <= 185) {
            String called = member((ops[at + 1] & 255) << 8 | ops[at + 2] & 255);
            if (called.startsWith("PricedBases")) {
                calls.add(called);
            } else {
                check(LIBRARY.contains(called), "calls " + called + ": " + method);
            }
        }
    }

    /** How many bytes an instruction has, with all that belongs to it. */
    private static int size(byte[] ops, int at) {
        int op = ops[at] & 255;
        if (op == TABLE_SWITCH || op == LOOKUP_SWITCH) {
            int from = (at + 4) / 4 * 4;
            int rows = op == TABLE_SWITCH ? number(ops, from + 8) - number(ops, from + 4) + 1 : 2 * number(ops, from + 4);
            return from - at + (op == TABLE_SWITCH ? 12 : 8) + 4 * rows;
        }
        if (op == WIDE) {
            return (ops[at + 1] & 255) == IINC ? 6 : 4;
        }
        return 1 + operands(op);
    }

    private static int operands(int op) {
        boolean one = op == 16 || op == 18 || op >= 21 && op <= 25 || op >= 54 && op <= 58 || op == 169 || op == 188;
        boolean two = op == 17 || op == 19 || op == 20 || op == IINC || op >= 153 && op <= 168 || op >= 178 && op <= 184
            || op == 187 || op == 189 || op == 192 || op == 193 || op == 198 || op == 199;
        boolean four = op == 185 || op == 186 || op == 200 || op == 201;
        return one ? 1 : two ? 2 : op == 197 ? 3 : four ? 4 : 0;
    }

    private static int number(byte[] ops, int at) {
        return (ops[at] & 255) << 24 | (ops[at + 1] & 255) << 16 | (ops[at + 2] & 255) << 8 | ops[at + 3] & 255;
    }
}
