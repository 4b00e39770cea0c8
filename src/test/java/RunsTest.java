/** Promises 14 to 16: numbers GIVEN, runs of FUNCTIONS and VERSIONS, and what is told of the latest. */
public final class RunsTest {
    /** d(n) takes 6*n + 3 STEPS and goes to DEPTH 2*n + 2. */
    private static final String DOWN = "d(n) = if n then d(n - 1) else 0;";

    public static void main(String[] args) {
        give();
        expressions();
        names();
        order();
        ends();
        endsByDepth();
        firstOfTwoEnds();
        runsOfVersions();
        exceptions();
        ran();
        Checks.end();
    }

    /** Runs FUNCTION 0 of a text; what it gives, its STEPS and its greatest DEPTH. */
    private static void done(String text, int number, int steps, int depth, int... given) {
        Specialiser x = Checks.having(text);
        for (int v : given) {
            x.give(v);
        }
        Checks.gives("run of " + text, 1, () -> x.run(false, 0, steps));
        Checks.ran("run of " + text, x, number, steps, depth);
        for (int v : given) {
            x.give(v);
        }
        Checks.gives("run with a step less of " + text, 2, () -> x.run(false, 0, steps - 1));
        Checks.gives("its number", 0, () -> x.ran(0));
        Checks.gives("its steps", steps - 1, () -> x.ran(1));
    }

    private static void give() {
        Specialiser x = new Specialiser();
        for (int i = 1; i <= 4; i++) {
            int count = i;
            Checks.gives("give " + i, i, () -> x.give(-count));
        }
        Checks.state("a fifth", () -> x.give(5));
        Checks.gives("given", 4, () -> x.told(6));
        Checks.tape(x, "f(a, b, c, d) = ((a*10 + b)*10 + c)*10 + d;");
        x.read();
        Checks.gives("run", 1, () -> x.run(false, 0, 20));
        Checks.gives("in order", -1234, () -> x.ran(0));
        Checks.gives("used up", 0, () -> x.told(6));
        Checks.gives("give again", 1, () -> x.give(5));
    }

    private static void expressions() {
        done("f() = 7;", 7, 1, 1);
        done("f() = -7;", -7, 1, 1);
        done("f(a) = a;", 9, 1, 1, 9);
        done("f(a) = ((a));", 9, 1, 1, 9);
        done("f() = 1 + 2;", 3, 3, 2);
        done("f() = 1 - 2*3;", -5, 5, 3);
        done("f(a) = a + 1;", Integer.MIN_VALUE, 3, 2, Integer.MAX_VALUE);
        done("f(a) = a - 1;", Integer.MAX_VALUE, 3, 2, Integer.MIN_VALUE);
        done("f(a) = a*a;", -2147479015, 3, 2, 46341);
        done("f(a) = a*-1;", Integer.MIN_VALUE, 3, 2, Integer.MIN_VALUE);
        done("f(a) = a < 0;", 1, 3, 2, Integer.MIN_VALUE);
        done("f(a) = a < 2147483647;", 0, 3, 2, Integer.MAX_VALUE);
        done("f(a, b) = a < b;", 0, 3, 2, 4, 4);
        done("f(a, b) = a < b;", 1, 3, 2, 3, 4);
        done("f(a, b) = a == b;", 1, 3, 2, -4, -4);
        done("f(a, b) = a == b;", 0, 3, 2, -4, 4);
        done("f(a) = if a then 2 else 3 + 4;", 2, 3, 2, 1);
        done("f(a) = if a then 2 else 3 + 4;", 2, 3, 2, -1);
        done("f(a) = if a then 2 else 3 + 4;", 7, 5, 3, 0);
        done("f(a) = let y = a + 1 in y*y;", 36, 7, 3, 5);
        done("f(a) = g(a, 2*3); g(x, y) = x - y;", -5, 8, 3, 1);
        done("f() = g(); g() = h(); h() = 4;", 4, 3, 3);
        done("f() = g(g(g(1))); g(x) = x + x;", 8, 13, 5);
    }

    private static void names() {
        done("f(a) = let a = a + 1 in let a = a*2 in a;", 12, 9, 4, 5);
        done("f(a) = (let a = 3 in a) + a;", 8, 5, 3, 5);
        done("f(a) = let b = g(a) in b + a; g(a) = let b = a*a in b + 1;", 31, 13, 5, 5);
        done("f(g) = g(g) - g; g(f) = f*10;", 36, 7, 4, 4);
        done("f(a, b, c, d) = g(d, c, b, a); g(a, b, c, d) = ((a*10 + b)*10 + c)*10 + d;", 4321, 18, 8, 1, 2, 3, 4);
    }

    /** What comes first is seen by the DEPTH that so few STEPS have come to. */
    private static void order() {
        String deep = "(1 + (1 + (1 + 1)))";
        comesTo(4, "f() = " + deep + "*1;", 6);
        comesTo(2, "f() = 1*" + deep + ";", 3);
        comesTo(4, "f() = g(" + deep + ", 1); g(a, b) = a;", 6);
        comesTo(2, "f() = g(1, " + deep + "); g(a, b) = a;", 3);
        comesTo(3, "f() = g(1, 1, " + deep + "); g(a, b, c) = a;", 5);
        comesTo(2, "f() = g(1, 1); g(a, b) = " + deep + ";", 4);
        comesTo(4, "f() = let y = " + deep + " in 1;", 6);
        comesTo(2, "f() = let y = 1 in " + deep + ";", 3);
        comesTo(4, "f() = if " + deep + " then 1 else 1;", 6);
        comesTo(2, "f() = if 1 then " + deep + " else 1;", 3);
    }

    private static void comesTo(int depth, String text, int steps) {
        Specialiser x = Checks.having(text);
        Checks.gives("run of " + text, 2, () -> x.run(false, 0, steps));
        Checks.ran("run of " + text, x, 0, steps, depth);
    }

    private static void ends() {
        Specialiser x = Checks.having("f(a) = f(a); g() = 1 + 2;");
        x.give(1);
        Checks.gives("run without a step", 2, () -> x.run(false, 0, 0));
        Checks.ran("run without a step", x, 0, 0, 0);
        x.give(1);
        Checks.gives("run with three steps", 2, () -> x.run(false, 0, 3));
        Checks.ran("run with three steps", x, 0, 3, 2);
        Checks.gives("what is given is used up", 0, () -> x.told(6));
        Checks.gives("run with just as many steps", 1, () -> x.run(false, 1, 3));
        Checks.gives("run with more steps", 1, () -> x.run(false, 1, 20000));
        Checks.ran("run with more steps", x, 3, 3, 2);
        Specialiser y = Checks.having("t(n) = if n then t(n - 1) + t(n - 1) else 0;");
        y.give(30);
        Checks.gives("run with all steps", 2, () -> y.run(false, 0, 20000));
        Checks.ran("run with all steps", y, 0, 20000, 30 * 3 + 2);
    }

    private static void endsByDepth() {
        Specialiser x = Checks.having(DOWN);
        x.give(79);
        Checks.gives("run to depth 160", 1, () -> x.run(false, 0, 20000));
        Checks.ran("run to depth 160", x, 0, 477, 160);
        x.give(80);
        Checks.gives("run beyond depth 160", 3, () -> x.run(false, 0, 20000));
        Checks.ran("run beyond depth 160", x, 0, 477, 160);
        Specialiser z = Checks.having("f(p) = d(p); d(n) = if n then d(n - 1) else g(7); g(x) = x;");
        z.give(78);
        Checks.gives("run with a call at depth 159", 1, () -> z.run(false, 0, 20000));
        Checks.ran("run with a call at depth 159", z, 7, 2 + 78 * 6 + 5, 160);
        Specialiser y = Checks.having("f(a) = f(a);");
        y.give(3);
        Checks.gives("run without an end", 3, () -> y.run(false, 0, 20000));
        Checks.ran("run without an end", y, 0, 159 * 2 + 1, 160);
    }

    /** Where both ends would be it is that by STEPS. */
    private static void firstOfTwoEnds() {
        Specialiser x = Checks.having(DOWN);
        x.give(80);
        Checks.gives("both at once", 2, () -> x.run(false, 0, 477));
        Checks.ran("both at once", x, 0, 477, 160);
        x.give(80);
        Checks.gives("a step more", 3, () -> x.run(false, 0, 478));
        x.give(79);
        Checks.gives("just done", 1, () -> x.run(false, 0, 477));
    }

    private static void runsOfVersions() {
        Specialiser x = Checks.having("f(a, b, c) = let y = a - c in y*g(b, y); g(u, w) = if u then g(u - 1, w) + w else 1;");
        x.know(1, 2);
        Checks.gives("make", 4, () -> x.make(0));
        Checks.same("print", Checks.out(x), "v0(a, b) = (let x0 = (a - b) in (x0 * v1(x0)));\n"
                + "v1(a) = (v2(a) + a);\nv2(a) = (v3(a) + a);\nv3(a) = 1;\n");
        x.give(9);
        x.give(4);
        Checks.gives("run of version 0", 1, () -> x.run(true, 0, 20000));
        Checks.ran("run of version 0", x, 5 * 11, 17, 8);
        x.give(9);
        x.give(2);
        x.give(4);
        Checks.gives("run of the function", 1, () -> x.run(false, 0, 20000));
        Checks.gives("it gives the same", 55, () -> x.ran(0));
        x.give(7);
        Checks.gives("run of version 3", 1, () -> x.run(true, 3, 1));
        Checks.ran("run of version 3", x, 1, 1, 1);
        x.give(7);
        Checks.gives("run of version 2", 1, () -> x.run(true, 2, 20));
        Checks.gives("it gives", 8, () -> x.ran(0));
        Specialiser y = Checks.having("loop(a) = loop(a + 1); f(p) = p + loop(1);");
        y.make(1);
        y.give(0);
        Checks.gives("run of versions without an end", 3, () -> y.run(true, 0, 20000));
        Checks.gives("its depth", 160, () -> y.ran(2));
        y.give(0);
        Checks.gives("run of them with few steps", 2, () -> y.run(true, 0, 31));
        Checks.ran("run of them with few steps", y, 0, 31, 30);
    }

    private static void exceptions() {
        Specialiser x = Checks.having("f(a) = a + 1; g() = 3;");
        Checks.state("no versions", () -> x.run(true, 0, 10));
        Checks.state("no versions, and all else wrong", () -> x.run(true, -1, -1));
        x.give(4);
        Checks.index("function -1", () -> x.run(false, -1, 10));
        Checks.index("function 2", () -> x.run(false, 2, 10));
        Checks.index("function 2 and the steps wrong", () -> x.run(false, 2, -1));
        Checks.argument("steps -1", () -> x.run(false, 0, -1));
        Checks.argument("steps 20001", () -> x.run(false, 0, 20001));
        Checks.argument("steps 2147483647", () -> x.run(false, 0, Integer.MAX_VALUE));
        Checks.argument("one too many given", () -> x.run(false, 1, 10));
        x.make(1);
        Checks.index("version 1", () -> x.run(true, 1, 10));
        Checks.index("version -1", () -> x.run(true, -1, 10));
        Checks.argument("one too many given to a version", () -> x.run(true, 0, 10));
        Checks.gives("given stays", 1, () -> x.told(6));
        Checks.ran("no run yet", x, 0, 0, 0);
        Checks.gives("run at last", 1, () -> x.run(false, 0, 20000));
        Checks.ran("run at last", x, 5, 3, 2);
        Checks.argument("one missing", () -> x.run(false, 0, 10));
        Checks.ran("that leaves ran", x, 5, 3, 2);
    }

    private static void ran() {
        Specialiser x = Checks.having("f(a) = a + 1; g(p) = f(3);");
        Checks.index("ran(3)", () -> x.ran(3));
        Checks.index("ran(-1)", () -> x.ran(-1));
        Checks.index("ran(2147483647)", () -> x.ran(Integer.MAX_VALUE));
        x.give(41);
        x.run(false, 0, 10);
        x.make(1);
        Checks.gives("a call was tried", 1, () -> x.told(3));
        Checks.ran("make leaves it", x, 42, 3, 2);
        Checks.tape(x, "h() = 1;");
        x.read();
        Checks.ran("read leaves it", x, 42, 3, 2);
        Checks.gives("a run that ends by 2", 2, () -> x.run(false, 0, 0));
        Checks.ran("that is the latest", x, 0, 0, 0);
    }
}
