/** Texts of orders, as they come onto the tape. */
final class Texts {
    private Texts() {
    }

    /** Feeds a text; what is left of its last twenty bytes is filled with what nothing may look at. */
    static void feed(PricedBases x, String text) {
        for (int k = 0; k < text.length(); k += 20) {
            int[] w = new int[5];
            for (int i = 0; i < 20; i++) {
                int sign = k + i < text.length() ? text.charAt(k + i) : '7';
                w[i / 4] = w[i / 4] << 8 | sign;
            }
            x.feed(w[0], w[1], w[2], w[3], w[4]);
        }
    }

    static int orders(PricedBases x, String text) {
        feed(x, text);
        return x.orders(text.length());
    }

    static int clauses(String text) {
        return text.length() - text.replace(";", "").length() + 1;
    }
}
