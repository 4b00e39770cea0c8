/** Texts that come just to a bound: of STEPS, of DEPTH, of EXPRESSIONS that are GONE THROUGH, of bytes PRINTED. */
final class Costs {
    /** Behind p = 0, t(p + k) takes 4 + T(k) STEPS, T being 3, 17, 45, 101 and so on; d(p + k) takes 6*k + 7. */
    static final String FUNCTIONS = " t(n) = if n then t(n - 1) + t(n - 1) else 0; two(a, b) = a;"
            + " d(n) = if n then d(n - 1) else 0;";
    /** With fewer than these left the E could not be ended: there is none with two STEPS. */
    private static final int LEAST_LEFT = 3;
    static final int LEAST_LONG = 7740;

    private Costs() {
    }

    /**
     * An E over a PARAM p that is 0 with just so many STEPS. Nothing in it can be worked out as long as p is not KNOWN,
     * so that a VERSION of it takes the same as the FUNCTION; so it is with depth(n).
     */
    static String steps(int n) {
        int k = -1;
        int coin = 0;
        for (int of = 3, i = 0; 5 + of + LEAST_LEFT <= n; of = 2 * of + 11, i++) {
            k = i;
            coin = 5 + of;
        }
        return k < 0 ? few(n) : "t(p + " + k + ") + (" + steps(n - coin) + ")";
    }

    private static String few(int n) {
        if (n == 1) {
            return "p";
        }
        return n == 4 ? "two(p, p)" : "p + (" + few(n - 2) + ")";
    }

    static String depth(int n) {
        return n % 2 == 1 ? "d(p + " + (n - 3) / 2 + ")" : "p + d(p + " + (n - 4) / 2 + ")";
    }

    /**
     * 27 FUNCTIONS with 36 EXPRESSIONS, each calling the next, then one with 17 and those of the last E: with eleven
     * there, make(0) goes through a thousand.
     */
    static String thousand(String last) {
        String e15 = "a*a+a*a<a*a+a*a";
        StringBuilder text = new StringBuilder();
        for (int f = 0; f < 27; f++) {
            text.append("f").append(f).append("(a) = if a then ").append(e15).append(" else if a then ").append(e15);
            text.append(" else f").append(f + 1).append("(a);\n");
        }
        return text + "f27(a) = if a then " + e15 + " else " + last + ";\n";
    }

    /** An object that has PRINTED so many bytes, LEAST_LONG or more; to make it takes some 230 calls. */
    static Specialiser printed(int bytes) {
        int more = bytes - LEAST_LONG;
        Specialiser x = Checks.having(longText(more / 35, lastOf(1 + more % 35)));
        x.know(1, Integer.MIN_VALUE);
        x.make(0);
        Checks.same("bytes printed", x.print(), bytes);
        return x;
    }

    /** Twelve FUNCTIONS that print long: a NUMBER that is KNOWN as the least int takes 17 bytes, its if 35. */
    private static String longText(int moreIfs, String last) {
        StringBuilder text = new StringBuilder();
        for (int f = 0; f < 12; f++) {
            text.append("f").append(f).append("(a, z) = ");
            text.append("if a then z else ".repeat(f < moreIfs ? 19 : 18));
            text.append(f < 11 ? "f" + (f + 1) + "(a, z)" : last).append(";\n");
        }
        return text.toString();
    }

    /** An E of so many bytes when it is printed. */
    private static String lastOf(int bytes) {
        int sums = bytes > 10 ? (bytes - 5) / 6 : 0;
        return "a + (".repeat(sums) + "1".repeat(bytes - 6 * sums) + ")".repeat(sums);
    }
}
