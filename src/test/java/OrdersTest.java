import java.util.function.IntSupplier;

/**
 * Calls in orders that come up in use: a text read, made and printed over another, what was printed read again, makes
 * over makes. Ahead of each call stand some that throw, and change nothing.
 */
public final class OrdersTest {
    private static final String SUM = "f(a, b) = let y = g(a) in y + b; g(c) = if c < 1 then 0 else c + g(c - 1); h() = 7;";
    private static final String SUM_MADE = "v0(a) = (let x0 = v1(a) in (x0 + 5));\n"
            + "v1(a) = (if (a < 1) then 0 else (a + v1((a - 1))));\n";
    private static final String PRODUCT = "k(p, q, r) = p*q - r;";
    private static final String PRODUCT_MADE = "v0(a) = ((2 * a) - -3);\n";
    private static final String POWER = "p(x, n) = if n < 1 then 1 else x*p(x, n - 1);";
    private static final String POWER_MADE = "v0(a) = (a * v1(a));\nv1(a) = (a * v2(a));\nv2(a) = (a * v3(a));\nv3(a) = 1;\n";
    private static final String ENDLESS =
            "u(n, p) = if p then p*p+p*p<p*p+p*p else if p then p*p+p*p<p*p+p*p else u(n + 1, p); i(a, b) = a - b;";
    private static final int CALLS_BETWEEN = 3;

    private final Specialiser x = new Specialiser();
    private final String name;
    private int turn = 0;
    private int calls = 0;

    private OrdersTest(String name) {
        this.name = name;
    }

    public static void main(String[] args) {
        new OrdersTest("texts over one another").textsOverOneAnother();
        new OrdersTest("printed and read again").printedAndReadAgain();
        new OrdersTest("printed, cut and read").printedCutAndRead();
        new OrdersTest("faults between").faultsBetween();
        new OrdersTest("makes over makes").makesOverMakes();
        new OrdersTest("versions in the same places").versionsInTheSamePlaces();
        new OrdersTest("makes that are given up").makesThatAreGivenUp();
        new OrdersTest("the latest run").latestRun();
        new OrdersTest("known and given early").knownAndGivenEarly();
        new OrdersTest("place").placeOfTheLatestRead();
        new OrdersTest("as printed in the document").asPrintedInTheDocument();
        Checks.end();
    }

    // ---- calls

    /** These throw in whatever state the object is. */
    private void callsThatThrow() {
        IntSupplier[] all = {
            () -> x.cut(-1), () -> x.cut(8001), () -> x.function(-1, 0), () -> x.function(0, 3), () -> x.function(48, 1),
            () -> x.know(-1, 77), () -> x.know(4, 77), () -> x.make(-1), () -> x.make(48), () -> x.version(-1, 1),
            () -> x.version(0, 10), () -> x.version(0, -1), () -> x.told(8), () -> x.told(-1), () -> x.out(-1),
            () -> x.out(40000), () -> x.run(false, -1, 5), () -> x.run(true, 78, 5), () -> x.run(false, 0, 20001),
            () -> x.run(true, 0, -1), () -> x.ran(3), () -> x.ran(-1),
        };
        for (int i = 0; i < CALLS_BETWEEN; i++) {
            String answer = Checks.answer(all[turn % all.length]);
            Checks.same(name + ": call " + turn % all.length + " between", answer.startsWith("throws."), true);
            turn++;
            calls++;
        }
    }

    private void is(String what, int due, IntSupplier call) {
        callsThatThrow();
        Checks.gives(name + ": " + what, due, call);
        calls++;
        Checks.same(name + ": more calls than are promised", calls > 512, false);
    }

    private void throwsState(String what, IntSupplier call) {
        callsThatThrow();
        Checks.state(name + ": " + what, call);
        calls++;
    }

    private void throwsIndex(String what, IntSupplier call) {
        callsThatThrow();
        Checks.index(name + ": " + what, call);
        calls++;
    }

    private void tape(String text) {
        Checks.tape(x, text);
        calls += text.length() / 20 + 3;
    }

    private void reads(int due, String text) {
        tape(text);
        is("read of " + text, due, () -> x.read());
    }

    private void function(int f, int params, int expressions, int lets) {
        is("function(" + f + ", 0)", params, () -> x.function(f, 0));
        is("function(" + f + ", 1)", expressions, () -> x.function(f, 1));
        is("function(" + f + ", 2)", lets, () -> x.function(f, 2));
    }

    private void version(int k, int... due) {
        for (int what = 0; what < due.length; what++) {
            int w = what;
            is("version(" + k + ", " + w + ")", due[w], () -> x.version(k, w));
        }
    }

    private void told(int... due) {
        for (int what = 0; what < due.length; what++) {
            int w = what;
            is("told(" + w + ")", due[w], () -> x.told(w));
        }
    }

    /** All of THE OUT; no calls between these, for they would be too many. */
    private void outIs(String due) {
        callsThatThrow();
        for (int i = 0; i < due.length(); i++) {
            int at = i;
            Checks.gives(name + ": out(" + at + ") of " + due, due.charAt(at), () -> x.out(at));
        }
        throwsIndex("out behind " + due, () -> x.out(due.length()));
        calls += due.length();
    }

    private void prints(String due) {
        is("print", due.length(), () -> x.print());
        outIs(due);
    }

    private void runs(boolean made, int k, int end, int number, int steps, int... given) {
        for (int i = 0; i < given.length; i++) {
            int v = given[i];
            is("give(" + v + ")", i + 1, () -> x.give(v));
        }
        is("run(" + made + ", " + k + ", " + steps + ")", end, () -> x.run(made, k, steps));
        is("ran(0)", number, () -> x.ran(0));
        is("ran(1)", steps, () -> x.ran(1));
    }

    // ---- orders

    private void textsOverOneAnother() {
        reads(3, SUM);
        function(0, 2, 6, 1);
        is("know", 1, () -> x.know(1, 5));
        is("make", 2, () -> x.make(0));
        prints(SUM_MADE);
        reads(1, PRODUCT);
        throwsIndex("a function of the first text", () -> x.function(1, 0));
        throwsIndex("a version of the first text", () -> x.version(0, 0));
        throwsState("print", () -> x.print());
        throwsState("run", () -> x.run(true, 0, 5));
        is("what was printed is still there", 'v', () -> x.out(SUM_MADE.indexOf("v1(a) = ")));
        function(0, 3, 5, 0);
        is("know", 1, () -> x.know(0, 2));
        is("know", 2, () -> x.know(2, -3));
        is("make", 1, () -> x.make(0));
        version(0, 0, 5, 1, 5, 0, 0, 2, 0, -3, 0);
        throwsIndex("a second version", () -> x.version(1, 0));
        prints(PRODUCT_MADE);
        runs(true, 0, 1, 23, 5, 10);
    }

    private void printedAndReadAgain() {
        reads(1, POWER);
        is("know", 1, () -> x.know(1, 3));
        is("make", 4, () -> x.make(0));
        is("print", POWER_MADE.length(), () -> x.print());
        is("back", POWER_MADE.length(), () -> x.back());
        is("bytes of the tape", POWER_MADE.length(), () -> x.told(7));
        is("read", 4, () -> x.read());
        function(0, 1, 4, 0);
        function(3, 1, 1, 0);
        is("make of what was made", 4, () -> x.make(0));
        told(4, 13, 0, 0, 13);
        prints(POWER_MADE);
        is("back", POWER_MADE.length(), () -> x.back());
        is("read", 4, () -> x.read());
        runs(false, 0, 1, 125, 13, 5);
        is("know", 1, () -> x.know(0, 2));
        is("make", 1, () -> x.make(0));
        told(1, 1, 1, 1, 4);
        prints("v0() = 8;\n");
        is("back", 10, () -> x.back());
        is("read", 1, () -> x.read());
        runs(false, 0, 1, 8, 1);
    }

    private void printedCutAndRead() {
        reads(1, POWER);
        is("back of nothing", 0, () -> x.back());
        tape("zz");
        is("back of nothing over a tape", 0, () -> x.back());
        is("the tape is empty", 0, () -> x.told(7));
        is("read of nothing", -2, () -> x.read());
        is("place", 0, () -> x.place());
        is("know", 1, () -> x.know(1, 3));
        is("make", 4, () -> x.make(0));
        is("print", 74, () -> x.print());
        tape("zz");
        is("back over a tape", 74, () -> x.back());
        is("back once more", 74, () -> x.back());
        is("feed behind it", 94, () -> x.feed(0x24242424, 0, 0, 0, 0));
        is("cut in a version", 94 - 30, () -> x.cut(30));
        is("read of a part", -2, () -> x.read());
        is("place", 30, () -> x.place());
        is("the program is still there", 12, () -> x.function(0, 1));
        version(3, 0, 2, 1, 1, 0, 1, 0, 0, 0, 0);
        is("back", 74, () -> x.back());
        is("cut to the calls of a version that is missing", 11, () -> x.cut(63));
        is("read of them", -4, () -> x.read());
        is("place", POWER_MADE.indexOf("v3"), () -> x.place());
        is("back", 74, () -> x.back());
        tape("v4() = v0(1);");
        is("read of it with a function more", 5, () -> x.read());
        runs(false, 4, 1, 1, 15);
        outIs(POWER_MADE);
    }

    private void faultsBetween() {
        reads(-2, "f(");
        throwsState("no program", () -> x.make(0));
        reads(3, SUM);
        reads(-1, "f() = $;");
        is("know", 1, () -> x.know(1, 5));
        reads(-3, "f(a, a) = 1;");
        is("make", 2, () -> x.make(0));
        reads(-4, "f(a) = b;");
        prints(SUM_MADE);
        reads(-5, "f(a) = f();");
        is("give", 1, () -> x.give(4));
        reads(-6, "f(a, b, c, d, e) = a;");
        is("run", 1, () -> x.run(true, 0, 100));
        is("ran", 15, () -> x.ran(0));
        told(2, 17, 0, 0, 17, 0, 0, 0);
        is("back", SUM_MADE.length(), () -> x.back());
        is("read", 2, () -> x.read());
        runs(false, 1, 1, 6, 35, 3);
    }

    private void makesOverMakes() {
        reads(3, SUM);
        is("know", 1, () -> x.know(0, 3));
        is("make", 1, () -> x.make(0));
        told(1, 3, 1, 1, 6);
        prints("v0(a) = (6 + a);\n");
        is("make", 1, () -> x.make(1));
        told(1, 11, 0, 0, 11);
        is("what was printed is still there", '6', () -> x.out(9));
        prints("v0(a) = (if (a < 1) then 0 else (a + v0((a - 1))));\n");
        is("make", 1, () -> x.make(2));
        version(0, 2, 0, 0, 1, 0, 1, 0, 0, 0, 0);
        throwsIndex("a version of an earlier make", () -> x.version(1, 0));
        prints("v0() = 7;\n");
        runs(true, 0, 1, 7, 1);
        is("know", 1, () -> x.know(1, 5));
        is("make", 2, () -> x.make(0));
        prints(SUM_MADE);
    }

    /** What an earlier VERSION k had KNOWN is not of the later one. */
    private void versionsInTheSamePlaces() {
        reads(3, "f(a, b) = g(a, 1, b, 2) + g(3, a, 4, b); g(p, q, r, s) = (p - q)*(r - s); h(a) = f(a, a) - g(a, a, a, a);");
        is("make", 3, () -> x.make(0));
        version(1, 1, 10, 2, 7, 0, 0, 0, 1, 0, 2);
        version(2, 1, 5, 2, 7, 0, 0, 3, 0, 4, 0);
        is("make", 5, () -> x.make(2));
        version(1, 0, 0, 2, 7, 0, 0, 0, 0, 0, 0);
        version(2, 1, 0, 4, 7, 0, 0, 0, 0, 0, 0);
        version(3, 1, 10, 2, 7, 0, 0, 0, 1, 0, 2);
        is("know", 1, () -> x.know(2, 9));
        is("make", 1, () -> x.make(1));
        version(0, 1, 4, 3, 7, 0, 0, 0, 0, 9, 0);
        throwsIndex("a version of an earlier make", () -> x.version(1, 0));
        is("make", 3, () -> x.make(0));
        version(2, 1, 5, 2, 7, 0, 0, 3, 0, 4, 0);
    }

    private void makesThatAreGivenUp() {
        reads(2, ENDLESS);
        is("know", 1, () -> x.know(0, 8));
        is("make", 1, () -> x.make(1));
        is("print", 17, () -> x.print());
        is("know", 1, () -> x.know(0, 1));
        is("know", 2, () -> x.know(3, 1));
        Checks.unsupported("make of the endless one", () -> x.make(0));
        Checks.unsupported("make of it once more", () -> x.make(0));
        told(1, 3, 0, 0, 3, 2);
        version(0, 1, 1, 1, 3, 0, 0, 8, 0, 0, 0);
        is("print", 17, () -> x.print());
        runs(true, 0, 1, 3, 3, 5);
        is("make with what is still known", 1, () -> x.make(1));
        version(0, 1, 1, 1, 3, 0, 0, 1, 0, 0, 0);
        prints("v0(a) = (1 - a);\n");
        is("nothing is known any more", 0, () -> x.told(5));
        reads(1, PRODUCT);
        is("make", 1, () -> x.make(0));
        prints("v0(a, b, c) = ((a * b) - c);\n");
    }

    private void latestRun() {
        is("before one", 0, () -> x.ran(1));
        reads(3, SUM);
        is("give", 1, () -> x.give(2));
        throwsIndex("run of none", () -> x.run(false, 3, 100));
        is("run", 1, () -> x.run(false, 1, 100));
        // for c being 2, 1 and 0: ten STEPS each for the first two, five for the last
        ran(3, 25, 9);
        is("know", 1, () -> x.know(0, 3));
        is("make with a call that is tried", 1, () -> x.make(0));
        ran(3, 25, 9);
        is("give", 1, () -> x.give(1));
        Checks.argument("run with too few given", () -> x.run(false, 0, 100));
        ran(3, 25, 9);
        reads(-1, "$");
        reads(1, PRODUCT);
        ran(3, 25, 9);
        is("give", 2, () -> x.give(2));
        is("give", 3, () -> x.give(3));
        is("run that is not done", 2, () -> x.run(false, 0, 4));
        ran(0, 4, 3);
        is("all were used up", 0, () -> x.told(6));
    }

    private void ran(int number, int steps, int depth) {
        is("ran(0)", number, () -> x.ran(0));
        is("ran(1)", steps, () -> x.ran(1));
        is("ran(2)", depth, () -> x.ran(2));
    }

    private void knownAndGivenEarly() {
        is("know", 1, () -> x.know(1, 4));
        is("know", 2, () -> x.know(3, 5));
        is("know once more", 2, () -> x.know(1, 6));
        is("give", 1, () -> x.give(-9));
        throwsState("make", () -> x.make(0));
        throwsState("run", () -> x.run(false, 0, 5));
        reads(1, "f(a, b) = a - b;");
        is("make", 1, () -> x.make(0));
        prints("v0(a) = (a - 6);\n");
        is("run", 1, () -> x.run(true, 0, 5));
        is("ran", -15, () -> x.ran(0));
        told(1, 3, 0, 0, 3, 0, 0, 0);
    }

    private void placeOfTheLatestRead() {
        is("before a read", -1, () -> x.place());
        reads(-2, "f() = 1");
        is("place", 7, () -> x.place());
        is("feed", 20, () -> x.feed(0x66282920, 0x3d20313b, 0x20202020, 0x20202020, 0x20202020));
        is("place over a feed", 7, () -> x.place());
        is("read", 1, () -> x.read());
        is("place", -1, () -> x.place());
        reads(-4, "f() = g();");
        is("make", 1, () -> x.make(0));
        is("print", 10, () -> x.print());
        is("back", 10, () -> x.back());
        is("run", 1, () -> x.run(false, 0, 1));
        is("place over all these", 6, () -> x.place());
        is("read", 1, () -> x.read());
        is("place", -1, () -> x.place());
    }

    private void asPrintedInTheDocument() {
        reads(1, "f(p, q) = p + 2;");
        is("make", 1, () -> x.make(0));
        prints("v0(a, b) = (a + 2);\n");
    }
}
