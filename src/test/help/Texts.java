/** Texts by a row of numbers that is the same each time: whole programs, and programs with a fault in them. */
final class Texts {
    private static final String[] NAMES = {"f", "g", "h", "a", "b", "x", "n", "m", "v0", "x0", "longname", "iff"};
    private static final String[] KNOWN = {
        "power(x, n) = if n < 1 then 1 else x*power(x, n - 1);",
        "f(m, n) = if m < 1 then n + 1 else if n < 1 then f(m - 1, 1) else f(m - 1, f(m, n - 1));"
            + " main(n) = f(2, n) - f(1, 5);",
        "up(a, n) = if a < n then up(a + 1, n) else a; loop(a) = loop(a + 1);"
            + " g(x) = let y = loop(x) in 5; k(x) = let z = 3 + 4 in if z == 7 then let w = x in w*w else loop(x);",
        "fib(n) = if n < 2 then n else fib(n - 1) + fib(n - 2); f(a) = fib(a); g() = fib(7) + fib(12);",
        "even(n, k) = if n == 0 then k else odd(n - 1, k + 1); odd(n, k) = if n == 0 then 0 - k else even(n - 1, k*2);",
        "f(a, b, c, d) = let s = a + b in let t = c + d in if s < t then f(s, t, c - 1, d) else s*t - f(1, 2, 3, d);",
        "sum(n, s) = if n == 0 then s else sum(n - 1, s + n); two(n) = sum(n, 0) + sum(n, 1);",
    };
    private static final char[] BYTES = "abz019 \n()=,;+-*<>.A\t\0\u00ff".toCharArray();

    private long state;

    Texts(long seed) {
        state = seed * 2862933555777941757L + 3037000493L;
    }

    int below(int n) {
        state = state * 6364136223846793005L + 1442695040888963407L;
        return (int) ((state >>> 33) % n);
    }

    boolean chance(int percent) {
        return below(100) < percent;
    }

    int number() {
        int kind = below(10);
        if (kind == 0) {
            return Integer.MIN_VALUE + below(3);
        }
        return kind == 1 ? Integer.MAX_VALUE - below(3) : kind == 2 ? below(2000) - 1000 : below(9) - 2;
    }

    String text() {
        String text = chance(30) ? KNOWN[below(KNOWN.length)] : program();
        return chance(35) ? spoilt(text) : text;
    }

    private String program() {
        int kind = below(12);
        int functions = kind == 0 ? 44 + below(7) : 1 + below(6);
        int size = kind == 0 ? below(3) : kind == 1 ? 7 : kind == 2 ? 0 : 2 + below(4);
        int[] params = new int[functions];
        for (int f = 0; f < functions; f++) {
            params[f] = chance(1) ? 5 : below(5);
        }
        StringBuilder text = new StringBuilder();
        for (int f = 0; f < functions; f++) {
            text.append(functionName(f)).append('(');
            String[] names = new String[params[f]];
            for (int i = 0; i < params[f]; i++) {
                names[i] = chance(1) ? "a" : "" + (char) ('a' + i);
                text.append(i == 0 ? "" : ", ").append(names[i]);
            }
            text.append(") = ");
            if (chance(3)) {
                text.append(deep(names));
            } else {
                e(text, size, names, params);
            }
            text.append(chance(50) ? ";" : ";\n");
        }
        return text.toString();
    }

    private String functionName(int f) {
        return chance(1) ? NAMES[below(NAMES.length)] : "f" + f;
    }

    /** An E as deep as may be, or a little more or less. */
    private String deep(String[] names) {
        String text = names.length > 0 && chance(50) ? names[0] : "1";
        int levels = 21 + below(5);
        boolean lets = chance(20);
        for (int i = 0; i < levels; i++) {
            int kind = lets ? 0 : below(5);
            String[] forms = {
                "let y = 1 in " + text, "(" + text + ")", "if 1 then 2 else " + text, "f0(" + text + ")",
                "1 < 2 + 3*(" + text + ")"
            };
            text = forms[kind];
        }
        return text;
    }

    private void e(StringBuilder text, int size, String[] names, int[] params) {
        int kind = size <= 0 ? 9 : below(10);
        if (kind == 0) {
            String name = chance(80) ? NAMES[below(NAMES.length)] : "a";
            text.append("let ").append(name).append(" = ");
            e(text, size - 1, names, params);
            text.append(" in ");
            String[] more = java.util.Arrays.copyOf(names, names.length + 1);
            more[names.length] = name;
            e(text, size - 1, more, params);
        } else if (kind <= 3) {
            text.append("if ");
            e(text, size - 1, names, params);
            text.append(" then ");
            e(text, size - 1, names, params);
            text.append(" else ");
            e(text, size - 1, names, params);
        } else {
            sides(text, size - 1, names, params);
        }
    }

    private void sides(StringBuilder text, int size, String[] names, int[] params) {
        String[] signs = {" + ", " - ", "*", " < ", "==", "", "", ""};
        String sign = signs[below(signs.length)];
        atom(text, size, names, params);
        if (!sign.isEmpty()) {
            text.append(sign);
            atom(text, size, names, params);
        }
    }

    private void atom(StringBuilder text, int size, String[] names, int[] params) {
        int kind = below(10);
        if (size > 0 && kind < 4) {
            int f = below(params.length);
            int count = chance(1) ? below(6) : params[f];
            text.append('f').append(f).append('(');
            for (int i = 0; i < count; i++) {
                text.append(i == 0 ? "" : ", ");
                e(text, size - 1, names, params);
            }
            text.append(')');
        } else if (size > 0 && kind < 6) {
            text.append('(');
            e(text, size - 1, names, params);
            text.append(')');
        } else if (names.length > 0 && kind < 8) {
            text.append(names[below(names.length)]);
        } else if (chance(1)) {
            text.append(NAMES[below(NAMES.length)]);
        } else {
            int v = number();
            text.append(v == Integer.MIN_VALUE ? 0 : v);
        }
    }

    private String spoilt(String text) {
        StringBuilder now = new StringBuilder(text);
        int times = 1 + below(3);
        for (int i = 0; i < times && now.length() > 0; i++) {
            int at = below(now.length());
            int kind = below(5);
            if (kind == 0) {
                now.deleteCharAt(at);
            } else if (kind == 1) {
                now.insert(at, BYTES[below(BYTES.length)]);
            } else if (kind == 2) {
                now.setCharAt(at, BYTES[below(BYTES.length)]);
            } else if (kind == 3) {
                now.insert(at, now.substring(at, Math.min(now.length(), at + below(12))));
            } else {
                now.setLength(at);
            }
        }
        return now.toString();
    }
}
