/**
 * Where the document could be taken in more than one way: each sentence that speaks of the case, what was decided, and
 * a test for that. (That print() refuses more than 40000 bytes is in PrintBoundTest.)
 */
public final class DecisionsTest {
    private static final String POWER = "f(x) = power(x, 2) + power(3, 4);"
            + " power(x, n) = if n < 1 then 1 else x*power(x, n - 1);";
    /** v0 (v1(a) + 81), v1 and v2 (a * vk(a)), v3 1; power(3, 4) was tried; gone through: 7, 11, 11 and 5. */
    private static final int[] TOLD_OF_POWER = {4, 4 + 4 + 4 + 1, 1, 1, 7 + 11 + 11 + 5};
    private static final int[] TOLD_OF_NONE = {0, 0, 0, 0, 0};

    public static void main(String[] args) {
        toldBeforeAMake();
        toldBehindARead();
        toldBehindAMakeThatThrows();
        versionsBehindARead();
        knownOverARead();
        givenOverARead();
        outOverARead();
        stepsOfARunThatEndsByThree();
        faultsFourAndFive();
        bracketsAreWithin();
        leastIntInARest();
        outIsAsLongAsTheLatestPrint();
        outOverABack();
        signsAreThoseThatAreNamed();
        Checks.end();
    }

    private static void told(String what, Specialiser x, int[] due) {
        for (int i = 0; i < due.length; i++) {
            int w = i;
            Checks.gives(what + ": told(" + w + ")", due[w], () -> x.told(w));
        }
    }

    private static void read(Specialiser x, int due, String text) {
        Checks.tape(x, text);
        Checks.gives("read of " + text, due, () -> x.read());
    }

    // ---- told() behind a read()

    /** "(0 before one)" */
    private static void toldBeforeAMake() {
        Specialiser x = new Specialiser();
        told("new", x, TOLD_OF_NONE);
        read(x, 2, POWER);
        told("behind a read", x, TOLD_OF_NONE);
        read(x, -2, "f() = ;");
        told("behind a fault", x, TOLD_OF_NONE);
    }

    /**
     * "Of the latest make() that did not throw": a read() is no make(), so 0 to 4 still speak of the one before it;
     * of 5 and 6 alone it is said that they speak of now.
     */
    private static void toldBehindARead() {
        Specialiser x = Checks.having(POWER);
        x.make(0);
        told("behind the make", x, TOLD_OF_POWER);
        read(x, 1, "g(a) = a*a;");
        told("behind a read", x, TOLD_OF_POWER);
        read(x, -4, "g(a) = b;");
        told("behind a fault", x, TOLD_OF_POWER);
        x.know(1, 3);
        x.give(4);
        Checks.gives("known now", 1, () -> x.told(5));
        Checks.gives("given now", 1, () -> x.told(6));
        Checks.gives("the tape now", 0, () -> x.told(7));
        Checks.gives("make of what was read", 1, () -> x.make(0));
        told("behind that", x, new int[] {1, 3, 0, 0, 3});
    }

    private static void toldBehindAMakeThatThrows() {
        Specialiser x = Checks.having(POWER);
        Checks.index("make(2)", () -> x.make(2));
        told("behind one that threw", x, TOLD_OF_NONE);
        x.make(0);
        Checks.index("make(2)", () -> x.make(2));
        told("behind one that threw", x, TOLD_OF_POWER);
        read(x, 28, Costs.thousand("a*a+a*a<a*a+a*a"));
        Checks.unsupported("make(0)", () -> x.make(0));
        told("behind one that went through too many", x, TOLD_OF_POWER);
    }

    /** "what was made of that is gone": the VERSIONS, so that they are not asked, PRINTED or run any more. */
    private static void versionsBehindARead() {
        Specialiser x = Checks.having(POWER);
        x.make(0);
        read(x, -1, "$");
        Checks.gives("a fault leaves them", 81, () -> runOf(x, 0));
        Checks.gives("version", 1, () -> x.version(3, 5));
        read(x, 2, POWER);
        Checks.index("version", () -> x.version(0, 0));
        Checks.state("print", () -> x.print());
        Checks.state("run", () -> x.run(true, 0, 10));
    }

    private static int runOf(Specialiser x, int given) {
        x.give(given);
        x.run(true, 0, 100);
        return x.ran(0);
    }

    // ---- KNOWN, GIVEN and THE OUT over a read()

    /** "is KNOWN as v for the next make()", and "nothing is KNOWN then any more" of make() alone. */
    private static void knownOverARead() {
        Specialiser x = new Specialiser();
        x.know(0, 7);
        x.know(2, 9);
        read(x, 1, "f(a, b, c) = a*b - c;");
        Checks.gives("known behind the first read", 2, () -> x.told(5));
        read(x, 1, "g(a, b, c) = a - b*c;");
        Checks.gives("known behind the next", 2, () -> x.told(5));
        read(x, -1, "$");
        Checks.gives("known behind a fault", 2, () -> x.told(5));
        Checks.gives("make", 1, () -> x.make(0));
        Checks.same("print", Checks.out(x), "v0(a) = (7 - (a * 9));\n");
        Checks.gives("nothing is known any more", 0, () -> x.told(5));
        read(x, 1, "h(a) = a;");
        Checks.gives("make", 1, () -> x.make(0));
        Checks.same("print", Checks.out(x), "v0(a) = a;\n");
    }

    /** "What is GIVEN is used up", by a run that does not throw alone. */
    private static void givenOverARead() {
        Specialiser x = new Specialiser();
        x.give(7);
        x.give(9);
        Checks.state("no program", () -> x.run(false, 0, 10));
        read(x, 1, "f(a, b) = a - b;");
        Checks.gives("given behind a read", 2, () -> x.told(6));
        x.make(0);
        Checks.gives("given behind a make", 2, () -> x.told(6));
        read(x, 1, "g(a, b) = b*10 + a;");
        read(x, -1, "$");
        Checks.gives("given behind a fault", 2, () -> x.told(6));
        Checks.gives("run", 1, () -> x.run(false, 0, 10));
        Checks.gives("it gave", 97, () -> x.ran(0));
        Checks.gives("used up", 0, () -> x.told(6));
        x.give(1);
        x.give(2);
        Checks.gives("a run that ends by 2", 2, () -> x.run(false, 0, 1));
        Checks.gives("used up by that, too", 0, () -> x.told(6));
    }

    /** Only print() writes THE OUT; a read() takes the VERSIONS, not what was PRINTED of them. */
    private static void outOverARead() {
        Specialiser x = Checks.having("f(a) = a*a;");
        x.make(0);
        String due = "v0(a) = (a * a);\n";
        Checks.same("print", Checks.out(x), due);
        read(x, 1, "g() = 1;");
        read(x, -2, "g() = ");
        for (int i = 0; i < due.length(); i++) {
            int at = i;
            Checks.gives("out(" + at + ")", due.charAt(at), () -> x.out(at));
        }
        Checks.index("out behind it", () -> x.out(due.length()));
        Checks.gives("back", due.length(), () -> x.back());
        Checks.gives("read of it", 1, () -> x.read());
        Checks.gives("its params", 1, () -> x.function(0, 0));
    }

    // ---- runs that end by 3

    /**
     * "TO WORK an EXPRESSION out is a STEP, and one DEPTH more"; "3 the 161st DEPTH would be (2 first)": the EXPRESSION
     * that would be there is not worked out, so its STEP is not counted, as its DEPTH is not.
     */
    private static void stepsOfARunThatEndsByThree() {
        Specialiser x = Checks.having("f() = f(); g(a) = g(a); h() = 1 + h();");
        ends(x, 0, 20000, 3, 160);
        ends(x, 0, 161, 3, 160);
        ends(x, 0, 160, 2, 160);
        ends(x, 0, 159, 2, 159);
        // 160 calls, and the arguments of all but the last
        ends(x, 1, 20000, 3, 160 + 159);
        ends(x, 1, 320, 3, 160 + 159);
        ends(x, 1, 319, 2, 160 + 159);
        // 80 sums, each with its 1, and 80 calls
        ends(x, 2, 20000, 3, 3 * 80);
        ends(x, 2, 241, 3, 3 * 80);
        ends(x, 2, 240, 2, 3 * 80);
    }

    private static void ends(Specialiser x, int f, int told, int end, int steps) {
        if (f == 1) {
            x.give(5);
        }
        String what = "run of " + f + " with " + told;
        Checks.gives(what, end, () -> x.run(false, f, told));
        Checks.ran(what, x, 0, steps, Math.min(160, steps));
    }

    // ---- FAULTS 4 and 5

    /**
     * "4 .. (at it; of a call ahead of its arguments); 5 .. (at the call's NAME, ahead of these)": both FAULTS of a
     * call come ahead of those in its arguments. All others are of a NAME alone, in which there is nothing, so the
     * order is that of the text; but FUNCTIONS that stand later may be called.
     */
    private static void faultsFourAndFive() {
        Checks.fault(4, "f(a) = @g(b);");
        Checks.fault(4, "f(a) = @g(f());");
        Checks.fault(5, "f(a) = @f(b, c);");
        Checks.fault(5, "f(a) = @f(g(b), 1);");
        Checks.fault(5, "f(a) = @f(f(), f());");
        Checks.fault(5, "f(a) = @f(f(f(b)), 1);");
        Checks.fault(4, "f(a) = f(@b);");
        Checks.fault(5, "f(a) = f(@f());");
        Checks.fault(4, "f(a) = f(f(@g(f())));");
        Checks.fault(4, "f(a, b) = f(@c, f(d));");
        Checks.fault(5, "f(a, b) = f(a, @f(d));");
        Checks.fault(5, "f(a, b) = f(@f(d), e);");
        Checks.fault(4, "f(a) = @b + f();");
        Checks.fault(5, "f(a) = @f() + b;");
        Checks.fault(4, "f(a) = let y = @b in f();");
        Checks.fault(5, "f(a) = let y = @f() in b;");
        Checks.fault(4, "f(a) = if @b then f() else c;");
        Checks.fault(5, "f(a) = if a then @f() else c;");
        Checks.fault(4, "f(a) = @b; g() = f();");
        Checks.fault(5, "f(a) = @g(1); g() = b;");
        Checks.fault(4, "f() = g(1); g(a) = @b + f(1);");
        Checks.fault(2, "f(a) = b + f() @+ 1;");
    }

    // ---- ( E )

    /**
     * "ATOM: .. | ( E )" and "an E within 24 others": what is in brackets is an E of the grammar, though ( E ) is no
     * EXPRESSION beside E itself.
     */
    private static void bracketsAreWithin() {
        Checks.whole(1, "f() = " + "(".repeat(23) + "1" + ")".repeat(23) + ";");
        Checks.fault(6, "f() = " + "(".repeat(24) + "@1" + ")".repeat(24) + ";");
        Checks.whole(1, "f(a) = " + "(f(".repeat(11) + "(a)" + "))".repeat(11) + ";");
        Checks.fault(6, "f(a) = " + "(f(".repeat(12) + "@a" + "))".repeat(12) + ";");
        Specialiser x = Checks.having("f() = " + "(".repeat(23) + "1" + ")".repeat(23) + ";");
        Checks.gives("expressions", 1, () -> x.function(0, 1));
        Checks.gives("run with one step", 1, () -> x.run(false, 0, 1));
        Checks.ran("run with one step", x, 1, 1, 1);
    }

    // ---- others

    /** "-2147483648 as (-2147483647 - 1)" is how a NUMBER is PRINTED: in the REST it is one, in a text three. */
    private static void leastIntInARest() {
        Specialiser x = Checks.having("f(p, q) = p + q;");
        x.know(1, Integer.MIN_VALUE);
        x.make(0);
        Checks.gives("expressions of the rest", 3, () -> x.version(0, 3));
        Checks.gives("of all", 3, () -> x.told(1));
        x.give(5);
        Checks.gives("run with so many", 1, () -> x.run(true, 0, 3));
        Checks.same("print", Checks.out(x), "v0(a) = (a + (-2147483647 - 1));\n");
        x.back();
        Checks.gives("read", 1, () -> x.read());
        Checks.gives("expressions of the text", 5, () -> x.function(0, 1));
    }

    /** "from the beginning of THE OUT on: how many bytes it has": a shorter one leaves nothing behind it. */
    private static void outIsAsLongAsTheLatestPrint() {
        Specialiser x = Checks.having("f(a) = a*a; g() = 1;");
        x.make(0);
        Checks.gives("print", 17, () -> x.print());
        x.make(1);
        Checks.gives("print of fewer", 10, () -> x.print());
        Checks.index("out behind it", () -> x.out(10));
        Checks.gives("back", 10, () -> x.back());
    }

    /** "THE OUT's bytes become THE TAPE": of read() it is said that THE TAPE is empty then, of THE OUT here it is not. */
    private static void outOverABack() {
        Specialiser x = Checks.having("f(a) = a*a;");
        x.make(0);
        Checks.gives("print", 17, () -> x.print());
        Checks.gives("back", 17, () -> x.back());
        Checks.gives("out", 'v', () -> x.out(0));
        Checks.gives("out", '\n', () -> x.out(16));
        x.cut(0);
        Checks.gives("back once more", 17, () -> x.back());
        Checks.gives("the tape", 17, () -> x.told(7));
    }

    /**
     * "The eleven SIGNS are == and = and the bytes ( ) , ; + - * < each alone": these are ten, and the lines of the
     * grammar have no other; so all other bytes are none, and not a SIGN that can't stand there.
     */
    private static void signsAreThoseThatAreNamed() {
        for (char sign : "!\"#$%&'./:>?[\\]^_`{|}~".toCharArray()) {
            Checks.fault(1, "f(a) = a @" + sign + " a;");
            Checks.fault(1, "f(a) = @" + sign + "a;");
        }
        for (String sign : new String[] {"=", "(", ")", ","}) {
            Checks.fault(2, "f(a) = a + 1 @" + sign + " a;");
        }
        for (String sign : new String[] {"==", "+", "-", "*", "<"}) {
            Checks.whole(1, "f(a) = a " + sign + " a;");
        }
    }
}
