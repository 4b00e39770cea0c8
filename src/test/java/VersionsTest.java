/** Promises 7 to 12: what is KNOWN, VERSIONS made of it, what is told of them, and how they are PRINTED. */
public final class VersionsTest {
    private static final String POWER = "power(x, n) = if n < 1 then 1 else x*power(x, n - 1);";
    private static final String LOOP = "loop(a) = loop(a + 1); f(p) = p + loop(1);";
    /** t(n) takes 3, 17, 45, 101, 213, 437 STEPS for n = 0, 1, .. and d(n) 6*n + 3. */
    private static final String COSTS =
            "t(n) = if n then t(n - 1) + t(n - 1) else 0; d(n) = if n then d(n - 1) else 0;"
            + " h() = d(9); just() = t(5) + h(); over() = t(5) + d(9)*1;"
            + " f(p) = p + just(); g(p) = p + over();";

    public static void main(String[] args) {
        know();
        expressions();
        lets();
        calls();
        order();
        triedCalls();
        triedDepth();
        sharing();
        boundOfVersions();
        generalVersionThere();
        deepestTree();
        whatAThrownMakeLeaves();
        version();
        told();
        printAndOut();
        Checks.end();
    }

    private static final int FREE = Integer.MIN_VALUE + 77;

    /** Makes FUNCTION f with these KNOWN, but for those that are FREE, and looks at all that is PRINTED. */
    private static Specialiser made(String due, String text, int f, int... known) {
        Specialiser x = knowing(text, known);
        int lines = due.split("\n").length;
        Checks.gives("make(" + f + ") of " + text, lines, () -> x.make(f));
        Checks.same("print of " + text, Checks.longOut(() -> {
            Specialiser y = knowing(text, known);
            y.make(f);
            return y;
        }), due);
        return x;
    }

    private static Specialiser knowing(String text, int... known) {
        Specialiser x = Checks.having(text);
        for (int i = 0; i < known.length; i++) {
            if (known[i] != FREE) {
                x.know(i, known[i]);
            }
        }
        return x;
    }

    private static void know() {
        Specialiser x = Checks.having("f(a, b, c, d) = a + (b + (c + d)); g(a) = a;");
        Checks.index("know(-1, 1)", () -> x.know(-1, 1));
        Checks.index("know(4, 1)", () -> x.know(4, 1));
        Checks.index("know(2147483647, 1)", () -> x.know(Integer.MAX_VALUE, 1));
        Checks.gives("told(5)", 0, () -> x.told(5));
        Checks.gives("know(3, 1)", 1, () -> x.know(3, 1));
        Checks.gives("know(0, 0)", 2, () -> x.know(0, 0));
        Checks.gives("know(0, 9)", 2, () -> x.know(0, 9));
        Checks.gives("told(5)", 2, () -> x.told(5));
        Checks.gives("make(0)", 1, () -> x.make(0));
        Checks.same("print", Checks.out(x), "v0(a, b) = (9 + (a + (b + 1)));\n");
        Checks.gives("told(5) behind make", 0, () -> x.told(5));
        Checks.gives("make(0) with nothing known", 1, () -> x.make(0));
        Checks.same("print", Checks.out(x), "v0(a, b, c, d) = (a + (b + (c + d)));\n");
        Checks.gives("know(2, 5)", 1, () -> x.know(2, 5));
        Checks.gives("make(1), which has no such parameter", 1, () -> x.make(1));
        Checks.same("print", Checks.out(x), "v0(a) = a;\n");
        Checks.gives("mask", 0, () -> x.version(0, 1));
        Checks.gives("number", 0, () -> x.version(0, 8));
        Checks.gives("told(5) is 0 all the same", 0, () -> x.told(5));
        x.know(0, 1);
        x.know(1, 2);
        x.know(2, 3);
        Checks.gives("know(3, 4)", 4, () -> x.know(3, 4));
        Checks.gives("make(0) with all known", 1, () -> x.make(0));
        Checks.same("print", Checks.out(x), "v0() = 10;\n");
    }

    private static void expressions() {
        made("v0() = 7;\n", "f() = 7;", 0);
        made("v0() = 0;\n", "f() = -0;", 0);
        made("v0() = -10;\n", "f() = 2 - 3*4;", 0);
        made("v0(a) = a;\n", "f(p) = ((p));", 0);
        made("v0() = 1000000;\n", "f(p) = p*p;", 0, -1000);
        made("v0() = -2147483647;\n", "f(p) = p + 2;", 0, Integer.MAX_VALUE);
        made("v0() = (-2147483647 - 1);\n", "f(p) = p + 1;", 0, Integer.MAX_VALUE);
        made("v0() = 2147483647;\n", "f(p) = p - 1;", 0, Integer.MIN_VALUE);
        made("v0() = 1;\n", "f(p) = p < 0;", 0, -1);
        made("v0() = 0;\n", "f(p) = p < 0;", 0, 0);
        made("v0() = 1;\n", "f(p) = p == 5;", 0, 5);
        made("v0() = 0;\n", "f(p) = p == 5;", 0, 6);
        made("v0(a, b) = (if (a < b) then (a + 1) else (if (a == b) then (a - b) else (a * -2)));\n",
                "f(p, q) = if p < q then p + 1 else if p == q then p - q else p*-2;", 0);
        made("v0(a, b) = (b - (5 * a));\n", "f(p, q, r) = r - q*p;", 0, FREE, 5);
        made("v0(a) = (a * 0);\n", "f(p) = p*0;", 0);
        made("v0(a) = (a - a);\n", "f(p) = p - p;", 0);
        made("v0(a) = (3 + a);\n", "f(p) = (1 + 2) + p;", 0);
        made("v0(a) = ((a + 1) + 2);\n", "f(p) = (p + 1) + 2;", 0);
        made("v0(a) = a;\n", "f(p) = if 5 - 3 then p else p + 1;", 0);
        made("v0(a) = (a + 1);\n", "f(p) = if 3 - 3 then p else p + 1;", 0);
        made("v0(a) = 4;\n", "f(p, q) = if q then 4 else p;", 0, FREE, -1);
        made("v0(a) = (if a then 1 else 1);\n", "f(p) = if p then 1 else 1;", 0);
        made("v0(a) = (if (if a then 1 else 0) then 2 else 3);\n", "f(p) = if if p then 1 else 0 then 2 else 3;", 0);
        Specialiser x = made("v0(a) = (a + (-2147483647 - 1));\n", "f(p) = p + (-2147483647 - 1);", 0);
        Checks.gives("the least int is one expression", 3, () -> x.version(0, 3));
        Checks.gives("five were gone through", 5, () -> x.told(4));
    }

    private static void lets() {
        made("v0(a) = (let x0 = (let x1 = a in (x1 + 1)) in (let x2 = x0 in (x2 * x0)));\n",
                "f(p) = let u = let w = p in w + 1 in let t = u in t*u;", 0);
        made("v0(a) = (let x0 = (a + 3) in x0);\n", "f(p) = let u = 3 in let w = p + u in w;", 0);
        made("v0(a) = (let x0 = a in 5);\n", "f(p) = let u = p in 5;", 0);
        made("v0(a) = (let x0 = (a + 1) in (let x1 = (x0 * 2) in x1));\n",
                "f(p) = let p = p + 1 in let p = p*2 in p;", 0);
        made("v0(a) = (2 + a);\n", "f(p) = (let p = 2 in p) + p;", 0);
        made("v0(a) = ((let x0 = a in x0) + (let x1 = a in (x1 - a)));\n",
                "f(p) = (let y = p in y) + (let y = p in y - p);", 0);
        made("v0(a) = (if a then (let x0 = a in x0) else (let x1 = (a + 1) in x1));\n",
                "f(p, q) = if p then let y = p in y else let z = 1 in let y = p + z in y;", 0, FREE, 3);
        made("v0(a) = (let x0 = a in (let x1 = (x0 + 4) in (x0 + x1)));\n",
                "f(b, c) = let a = c in let d = a + b in a + d;", 0, 4);
        Specialiser x = made("v0(a) = (let x0 = a in 5);\n", "f(p) = let u = p in 5;", 0);
        Checks.gives("lets", 1, () -> x.version(0, 4));
        Checks.gives("its rest is no number", 0, () -> x.version(0, 5));
        Checks.gives("expressions", 3, () -> x.version(0, 3));
    }

    private static void calls() {
        made("v0(a) = (a * v1(a));\nv1(a) = (a * v2(a));\nv2(a) = (a * v3(a));\nv3(a) = 1;\n", POWER, 0, FREE, 3);
        made("v0(a) = (if (a < 1) then 1 else (2 * v0((a - 1))));\n", POWER, 0, 2);
        made("v0() = 1024;\n", POWER + " f() = power(2, 10);", 1);
        made("v0(a) = v2(v1(a));\nv1(a) = (a + 1);\nv2(a) = (a + 2);\n",
                "f(x) = g(h(x)); g(a) = a + 2; h(a) = a + 1;", 0);
        made("v0(a, b) = v1(b, a);\nv1(a, b) = (a - (b - -1));\n",
                "f(p, q) = g(q, 7, p, 8); g(a, b, c, d) = a - (c - (b - d));", 0);
        made("v0(a, b) = v1(b, a);\nv1(a, b) = (if a then v0(b, a) else v1(b, a));\n",
                "f(p, q) = g(q, p); g(a, b) = if a then f(b, a) else g(b, a);", 0);
        made("v0(a) = v1();\nv1() = v1();\n", "f(p) = g(); g() = g();", 0);
    }

    /** VERSIONS are numbered as they come, VERSION by VERSION. */
    private static void order() {
        String ghk = " g(a) = a + 1; h(a) = a + 2; k(a) = a + 3;";
        String three = "v1(a) = (a + 1);\nv2(a) = (a + 2);\nv3(a) = (a + 3);\n";
        made("v0(a) = (if v1(a) then v2(a) else v3(a));\n" + three, "f(p) = if g(p) then h(p) else k(p);" + ghk, 0);
        made("v0(a) = (v1(a) * (v2(a) - v3(a)));\n" + three, "f(p) = g(p)*(h(p) - k(p));" + ghk, 0);
        made("v0(a) = (let x0 = v1(a) in (v2(x0) == v3(a)));\n" + three, "f(p) = let y = g(p) in h(y) == k(p);" + ghk, 0);
        made("v0(a) = v4(v1(a), v2(a), v3(a));\n" + three + "v4(a, b, c) = a;\n",
                "f(p) = l(g(p), h(p), k(p)); l(a, b, c) = a;" + ghk, 0);
        made("v0(a) = (v1(a) + v2(a));\nv1(a) = v3(a);\nv2(a) = v4(a);\nv3(a) = a;\nv4(a) = (a * a);\n",
                "f(p) = g(p) + h(p); g(a) = k(a); h(a) = l(a); k(a) = a; l(a) = a*a;", 0);
    }

    private static void triedCalls() {
        Specialiser x = Checks.having(COSTS);
        x.run(false, 3, 20000);
        Checks.gives("just() takes", 500, () -> x.ran(1));
        x.run(false, 4, 20000);
        Checks.gives("over() takes", 501, () -> x.ran(1));
        made("v0(a) = (a + 0);\n", COSTS, 5);
        Specialiser y = made("v0(a) = (a + v1());\nv1() = 0;\n", COSTS, 6);
        Checks.gives("tried: over(), t(5), d(9)", 3, () -> y.told(2));
        Checks.gives("of these ended by 1", 2, () -> y.told(3));
        Specialiser z = made("v0() = 3;\n", "g(a) = a; f() = if 0 then g(1) else g(2) + g(1);", 1);
        Checks.gives("only what is gone through is tried", 2, () -> z.told(2));
        Specialiser w = made("v0() = 4;\n", "g(a) = a; f() = g(2) + g(2);", 1);
        Checks.gives("the same call is tried again", 2, () -> w.told(2));
        Checks.gives("the expressions of tried runs are not gone through", 5, () -> w.told(4));
    }

    /** d(n) goes to DEPTH 2*n + 2: 160 may be, 162 may not. */
    private static void triedDepth() {
        Specialiser x = made("v0(a) = (a + 0);\n", "d(n) = if n then d(n - 1) else 0; f(p) = p + d(79);", 1);
        Checks.gives("well tried", 1, () -> x.told(3));
        Specialiser y = made("v0(a) = (a + v1());\nv1() = 0;\n",
                "d(n) = if n then d(n - 1) else 0; f(p) = p + d(80);", 1);
        Checks.gives("tried", 2, () -> y.told(2));
        Checks.gives("well tried", 1, () -> y.told(3));
    }

    private static void sharing() {
        made("v0(a) = ((v1(a) + v1(a)) * v2(a));\nv1(a) = (a * 1);\nv2(a) = (a * 2);\n",
                "f(x) = (g(x, 1) + g(x, 1))*g(x, 2); g(a, b) = a*b;", 0);
        made("v0(a) = (v1(a) + v2(a));\nv1(a) = (1 * a);\nv2(a) = (a * 1);\n",
                "f(x) = g(1, x) + g(x, 1); g(a, b) = a*b;", 0);
        made("v0(a) = (v1(a) + v2(a, a));\nv1(a) = (0 * a);\nv2(a, b) = (a * b);\n",
                "f(x) = g(0, x) + g(x, x); g(a, b) = a*b;", 0);
        made("v0(a) = (v1(a) + v2(a));\nv1(a) = (0 * a);\nv2(a) = (0 - a);\n",
                "f(x) = g(0, x) + h(0, x); g(a, b) = a*b; h(a, b) = a - b;", 0);
        made("v0(a) = v0((a + 1));\n", "f(a, b) = f(a + 1, b);", 0, FREE, 6);
        made("v0(a, b) = v1(a);\nv1(a) = v1(a);\n", "f(a, b) = f(a, 6);", 0);
    }

    private static void boundOfVersions() {
        StringBuilder due = new StringBuilder("v0(a) = (a + v1());\n");
        for (int k = 1; k < 29; k++) {
            due.append("v").append(k).append("() = v").append(k + 1).append("();\n");
        }
        due.append("v29() = v30(30);\nv30(a) = v30((a + 1));\n");
        Specialiser x = made(due.toString(), LOOP, 1);
        Checks.gives("tried", 30, () -> x.told(2));
        Checks.gives("well tried", 0, () -> x.told(3));
        Checks.gives("expressions", 3 + 28 + 2 + 4, () -> x.told(1));
        Checks.gives("known of 29", 29, () -> x.version(29, 6));
        Checks.gives("known of 30", 0, () -> x.version(30, 1));
    }

    /** The VERSION with nothing KNOWN is there as number 1, so none is made behind the thirtieth. */
    private static void generalVersionThere() {
        StringBuilder due = new StringBuilder("v0(a) = (v1(a, a) + v2(a));\n");
        due.append("v1(a, b) = (if (a == b) then v1((a + 1), b) else b);\n");
        for (int k = 2; k < 29; k++) {
            int n = k - 2;
            due.append("v").append(k).append("(a) = (if (").append(n).append(" == a) then v").append(k + 1);
            due.append("(a) else a);\n");
        }
        due.append("v29(a) = (if (27 == a) then v1(28, a) else a);\n");
        made(due.toString(), "f(x) = u(x, x) + u(0, x); u(n, x) = if n == x then u(n + 1, x) else x;", 0);
    }

    /** As many EXPRESSIONS within one another as a text can have, made and PRINTED. */
    private static void deepestTree() {
        String text = "f(p) = " + "p < 2 + 3*f(".repeat(23) + "p == 2 - 3*f(p)" + ")".repeat(23) + ";";
        String due = "v0(a) = " + "(a < (2 + (3 * v2(".repeat(23) + "(a == (2 - (3 * v1())))" + "))))".repeat(23) + ";\n";
        made(due + "v1() = v1();\nv2(a) = a;\n", "f(p) = " + "p < 2 + 3*g(".repeat(23) + "p == 2 - 3*h()"
                + ")".repeat(23) + "; g(p) = p; h() = h();", 0);
        Specialiser y = new Specialiser();
        Checks.tape(y, text);
        Checks.gives("one call deeper", -6, () -> y.read());
    }

    private static void whatAThrownMakeLeaves() {
        Specialiser x = Checks.having(Costs.thousand("f0(a*a+a*a<a*a)") + "one() = 1; two(p) = p;");
        x.know(0, 3);
        x.make(29);
        x.print();
        x.give(1);
        x.run(false, 29, 20);
        x.know(1, 8);
        x.know(3, 9);
        x.give(4);
        Checks.unsupported("make(0)", () -> x.make(0));
        Checks.gives("known stays", 2, () -> x.told(5));
        Checks.gives("given stays", 1, () -> x.told(6));
        Checks.gives("told(0) stays", 1, () -> x.told(0));
        Checks.gives("told(1) stays", 1, () -> x.told(1));
        Checks.gives("told(4) stays", 1, () -> x.told(4));
        Checks.gives("version stays", 29, () -> x.version(0, 0));
        Checks.gives("its number stays", 3, () -> x.version(0, 6));
        Checks.index("no version more", () -> x.version(1, 0));
        Checks.gives("ran stays", 1, () -> x.ran(0));
        Checks.gives("out stays", 10, () -> x.print());
        Checks.index("make(-1)", () -> x.make(-1));
        Checks.index("make(30)", () -> x.make(30));
        Checks.index("make(2147483647)", () -> x.make(Integer.MAX_VALUE));
        Checks.gives("known stays then, too", 2, () -> x.told(5));
        x.know(0, 5);
        Checks.gives("what stayed known goes with the next make", 1, () -> x.make(29));
        Checks.gives("nothing is known", 0, () -> x.told(5));
        Checks.gives("the number of now", 5, () -> x.version(0, 6));
        Specialiser y = Checks.having("g(a) = a; f() = g(1) + g(2);");
        y.make(1);
        y.make(1);
        Checks.gives("tried in the latest make alone", 2, () -> y.told(2));
        Checks.gives("well tried in the latest make alone", 2, () -> y.told(3));
    }

    private static void version() {
        Specialiser x = Checks.having("f(a, b, c, d) = let y = b + d in y + g(d, c, a); g(a, b, c) = b;");
        x.know(0, -5);
        x.know(2, Integer.MIN_VALUE);
        Checks.gives("make", 2, () -> x.make(0));
        int[][] due = {{0, 5, 2, 8, 1, 0, -5, 0, Integer.MIN_VALUE, 0}, {1, 6, 1, 1, 0, 1, 0, Integer.MIN_VALUE, -5, 0}};
        for (int k = 0; k < 2; k++) {
            for (int what = 0; what < 10; what++) {
                int v = k;
                int w = what;
                Checks.gives("version(" + k + ", " + what + ")", due[k][what], () -> x.version(v, w));
            }
        }
        Checks.same("print", Checks.out(x),
                "v0(a, b) = (let x0 = (a + b) in (x0 + v1(b)));\nv1(a) = (-2147483647 - 1);\n");
        Checks.index("version(0, 10)", () -> x.version(0, 10));
        Checks.index("version(0, -1)", () -> x.version(0, -1));
        Checks.index("version(2, 0)", () -> x.version(2, 0));
        Checks.index("version(-1, 0)", () -> x.version(-1, 0));
        Checks.index("version(2147483647, 9)", () -> x.version(Integer.MAX_VALUE, 9));
        x.make(1);
        Checks.index("a version of the make before", () -> x.version(1, 0));
        Checks.gives("the function of now", 1, () -> x.version(0, 0));
        Checks.gives("nothing known now", 0, () -> x.version(0, 8));
    }

    private static void told() {
        Specialiser x = Checks.having(POWER + " f(x) = power(x, 2) + power(3, 4);");
        x.know(3, 1);
        x.give(1);
        x.give(1);
        x.give(1);
        Checks.gives("make", 4, () -> x.make(1));
        x.know(1, 1);
        x.know(2, 1);
        x.feed(0, 0, 0, 0, 0);
        // v0 (v1(a) + 81), v1 and v2 (a * vk(a)), v3 1; gone through: 7, 11, 11 and 5
        int[] due = {4, 4 + 4 + 4 + 1, 1, 1, 7 + 11 + 11 + 5, 2, 3, 20};
        for (int what = 0; what < 8; what++) {
            int w = what;
            Checks.gives("told(" + what + ")", due[what], () -> x.told(w));
        }
        Checks.index("told(8)", () -> x.told(8));
        Checks.index("told(-1)", () -> x.told(-1));
        Checks.index("told(2147483647)", () -> x.told(Integer.MAX_VALUE));
        Checks.index("told(-2147483648)", () -> x.told(Integer.MIN_VALUE));
    }

    private static void printAndOut() {
        Specialiser x = Checks.having("f(p, q, r, s) = if p then q else r + s; g() = 1;");
        Checks.state("print with nothing made", () -> x.print());
        x.make(0);
        Checks.index("out of nothing", () -> x.out(0));
        String due = "v0(a, b, c, d) = (if a then b else (c + d));\n";
        Checks.gives("print", due.length(), () -> x.print());
        Checks.same("print again", Checks.out(x), due);
        Checks.index("out behind it", () -> x.out(due.length()));
        Checks.index("out(-1)", () -> x.out(-1));
        Checks.index("out(2147483647)", () -> x.out(Integer.MAX_VALUE));
        x.make(1);
        Checks.gives("out stays when versions are made", '\n', () -> x.out(due.length() - 1));
        Checks.gives("print of less", 10, () -> x.print());
        Checks.index("out is that long then", () -> x.out(10));
        Checks.gives("its last byte", '\n', () -> x.out(9));
    }
}
