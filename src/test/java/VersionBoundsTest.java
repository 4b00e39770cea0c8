/** The bounds of VERSIONS (3 VERSIONS, promises 7 to 13): at each number of the document, one below and one above. */
public final class VersionBoundsTest {
    private static final int MIN = Integer.MIN_VALUE;
    private static final int MAX = Integer.MAX_VALUE;
    private static final String[] PARAMS = {"", "a", "a, b", "a, b, c", "a, b, c, d"};

    public static void main(String[] args) {
        knowAtItsEnds();
        knownOfParamsThatAreThere();
        makeAtItsEnds();
        stepsOfTriedCalls();
        depthOfTriedCalls();
        triedWithoutArguments();
        thirtyVersions();
        thirtyAndOneThatIsThere();
        thirtyAndAFunctionWithoutParams();
        mostVersions();
        thousandGoneThrough();
        goneThroughEachTime();
        versionAtItsEnds();
        toldAtItsEnds();
        printedNumbers();
        printedLets();
        nothingToPrint();
        outAtItsEnds();
        backAtItsEnds();
        readAgainTooDeep();
        Checks.end();
    }

    // ---- know and make

    private static void knowAtItsEnds() {
        Specialiser x = new Specialiser();
        int[] none = {MIN, -1, 4, MAX};
        for (int i : none) {
            Checks.index("know(" + i + ", 1)", () -> x.know(i, 1));
        }
        Checks.gives("known", 0, () -> x.told(5));
        int[] numbers = {MIN, MAX, 0, -1};
        for (int i = 3; i >= 0; i--) {
            int p = i;
            Checks.gives("know(" + p + ", 7)", 4 - p, () -> x.know(p, 7));
            Checks.gives("know(" + p + ", 8) in its place", 4 - p, () -> x.know(p, numbers[p]));
        }
        Checks.index("know(4, 1) when all are known", () -> x.know(4, 1));
        Checks.gives("known", 4, () -> x.told(5));
        Checks.tape(x, "f(a, b, c, d) = a;");
        x.read();
        Checks.gives("make", 1, () -> x.make(0));
        for (int i = 0; i < 4; i++) {
            int p = i;
            Checks.gives("known of " + p, numbers[p], () -> x.version(0, 6 + p));
        }
    }

    private static void knownOfParamsThatAreThere() {
        for (int params = 0; params <= 4; params++) {
            Specialiser x = Checks.having("f(" + PARAMS[params] + ") = 1;");
            for (int i = 0; i < 4; i++) {
                x.know(i, 5 + i);
            }
            Checks.gives("make with " + params + " params", 1, () -> x.make(0));
            int mask = (1 << params) - 1;
            Checks.gives("which are known", mask, () -> x.version(0, 1));
            Checks.gives("which are left", 0, () -> x.version(0, 2));
            for (int i = 0; i < 4; i++) {
                int p = i;
                int due = i < params ? 5 + i : 0;
                Checks.gives("known of " + p, due, () -> x.version(0, 6 + p));
            }
            Checks.gives("nothing is known any more", 0, () -> x.told(5));
            Checks.gives("make again", 1, () -> x.make(0));
            Checks.gives("with nothing known", 0, () -> x.version(0, 1));
        }
    }

    private static void makeAtItsEnds() {
        Specialiser x = new Specialiser();
        int[] any = {MIN, -1, 0, 1, MAX};
        for (int f : any) {
            Checks.state("make(" + f + ") without a program", () -> x.make(f));
        }
        Checks.tape(x, "f() = 1; g() = 2;");
        x.read();
        int[] none = {MIN, -1, 2, MAX};
        for (int f : none) {
            Checks.index("make(" + f + ")", () -> x.make(f));
        }
        Checks.gives("make(0)", 1, () -> x.make(0));
        Checks.gives("its function", 0, () -> x.version(0, 0));
        Checks.gives("make(1)", 1, () -> x.make(1));
        Checks.gives("its function", 1, () -> x.version(0, 0));
    }

    // ---- tried calls

    private static Specialiser tried(String e, boolean well) {
        Specialiser x = Checks.having("f(q) = q + w(0); w(p) = " + e + ";" + Costs.FUNCTIONS);
        x.give(0);
        x.run(false, 1, 20000);
        Checks.gives("make with " + e, well ? 1 : 2, () -> x.make(0));
        Checks.gives("expressions of version 0", 3, () -> x.version(0, 3));
        return x;
    }

    private static void stepsOfTriedCalls() {
        for (int steps = 498; steps <= 503; steps++) {
            Specialiser x = tried(Costs.steps(steps), steps <= 500);
            int due = steps;
            Checks.gives("steps", due, () -> x.ran(1));
            if (steps <= 500) {
                Checks.gives("tried", 1, () -> x.told(2));
                Checks.gives("well tried", 1, () -> x.told(3));
            } else {
                Checks.gives("not all well tried", x.told(2) - 1, () -> x.told(3));
                Checks.gives("its function", 1, () -> x.version(1, 0));
                Checks.gives("all known", 1, () -> x.version(1, 1));
                Checks.gives("what is in it was well tried, so it is a number", 1, () -> x.version(1, 5));
            }
        }
    }

    private static void depthOfTriedCalls() {
        for (int depth = 158; depth <= 162; depth++) {
            Specialiser x = tried(Costs.depth(depth), depth <= 160);
            int due = Math.min(160, depth);
            int tried = depth <= 160 ? 1 : 2;
            Checks.gives("depth", due, () -> x.ran(2));
            Checks.gives("tried", tried, () -> x.told(2));
            // What is called in w is less deep than w itself.
            Checks.gives("well tried", 1, () -> x.told(3));
        }
    }

    private static void triedWithoutArguments() {
        Specialiser x = Checks.having("f(p) = p + g(); g() = 7; h(p) = p + l(); l() = l();");
        Checks.gives("make", 1, () -> x.make(0));
        Checks.gives("tried", 1, () -> x.told(2));
        Checks.gives("well tried", 1, () -> x.told(3));
        Checks.gives("make", 2, () -> x.make(2));
        Checks.gives("tried in both versions", 2, () -> x.told(2));
        Checks.gives("well tried", 0, () -> x.told(3));
    }

    // ---- versions

    /** Makes FUNCTION 0 with its first PARAM KNOWN as 0. */
    private static Specialiser chain(String text) {
        Specialiser x = Checks.having(text);
        x.know(0, 0);
        x.make(0);
        return x;
    }

    private static void thirtyVersions() {
        for (int last = 27; last <= 31; last++) {
            String text = "g(x, p) = if x == " + last + " then p else g(x + 1, p);";
            StringBuilder due = new StringBuilder();
            for (int k = 0; k < Math.min(29, last); k++) {
                due.append("v").append(k).append("(a) = v").append(k + 1).append("(a);\n");
            }
            if (last < 30) {
                due.append("v").append(last).append("(a) = a;\n");
            } else {
                due.append("v29(a) = v30(30, a);\n");
                due.append("v30(a, b) = (if (a == ").append(last).append(") then b else v30((a + 1), b));\n");
            }
            Checks.same("print of " + text, Checks.longOut(() -> chain(text)), due.toString());
            int versions = Math.min(31, last + 1);
            Specialiser x = chain(text);
            Checks.gives("versions", versions, () -> x.told(0));
            Checks.gives("the last one's known", last < 30 ? 1 : 0, () -> x.version(versions - 1, 1));
            Checks.index("none behind it", () -> x.version(versions, 0));
        }
    }

    /** Where thirty are there, one that is wanted and there already is still led to. */
    private static void thirtyAndOneThatIsThere() {
        Specialiser x = chain("g(x, p) = if x == 29 then g(7, p) + g(0, p) else g(x + 1, p);");
        Checks.gives("versions", 30, () -> x.told(0));
        Checks.gives("expressions", 29 * 2 + 5, () -> x.told(1));
        Specialiser y = chain("g(x, p) = if x == 29 then g(p, 7) + g(40, p) else g(x + 1, p);");
        Checks.gives("versions with a general one", 31, () -> y.told(0));
        Checks.gives("both calls lead to it with all arguments", 7, () -> y.version(29, 3));
    }

    private static void thirtyAndAFunctionWithoutParams() {
        String text = "g(x, p) = if x == 29 then h() + h() else g(x + 1, p); h() = h();";
        StringBuilder due = new StringBuilder();
        for (int k = 0; k < 29; k++) {
            due.append("v").append(k).append("(a) = v").append(k + 1).append("(a);\n");
        }
        due.append("v29(a) = (v30() + v30());\nv30() = v30();\n");
        Checks.same("print of " + text, Checks.longOut(() -> chain(text)), due.toString());
    }

    /** Thirty VERSIONS of the first of 48 FUNCTIONS, then one with nothing KNOWN of each. */
    private static String allFunctions() {
        StringBuilder text = new StringBuilder("g0(x, p) = if x == 40 then g1(1, p) else g0(x + 1, p);\n");
        for (int f = 1; f < 47; f++) {
            text.append("g").append(f).append("(x, p) = g").append(f + 1).append("(1, p);\n");
        }
        return text.append("g47(x, p) = p*x;\n").toString();
    }

    private static void mostVersions() {
        StringBuilder due = new StringBuilder();
        for (int k = 0; k < 29; k++) {
            due.append("v").append(k).append("(a) = v").append(k + 1).append("(a);\n");
        }
        due.append("v29(a) = v30(30, a);\nv30(a, b) = (if (a == 40) then v31(1, b) else v30((a + 1), b));\n");
        for (int k = 31; k < 77; k++) {
            due.append("v").append(k).append("(a, b) = v").append(k + 1).append("(1, b);\n");
        }
        due.append("v77(a, b) = (b * a);\n");
        Checks.same("print", Checks.longOut(() -> chain(allFunctions())), due.toString());
        Specialiser x = chain(allFunctions());
        Checks.gives("versions", 78, () -> x.told(0));
        Checks.gives("the last one's function", 47, () -> x.version(77, 0));
        Checks.index("none behind it", () -> x.version(78, 0));
        x.give(6);
        Checks.gives("run through all", 1, () -> x.run(true, 0, 20000));
        Checks.gives("it gave", 6, () -> x.ran(0));
        x.print();
        Checks.gives("back", due.length(), () -> x.back());
        Checks.gives("read again: more than 48", -6, () -> x.read());
        Checks.gives("place", due.indexOf("v48(a, b)"), () -> x.place());
        Checks.gives("the versions stay", 78, () -> x.told(0));
        Checks.gives("the last one stays", 2, () -> x.version(77, 2));
    }

    // ---- gone through

    private static void thousandGoneThrough() {
        String[] fit = {"f0(a*a+a*a<a)", "a*a+a*a<a*a"};
        for (int i = 0; i < 2; i++) {
            int gone = 999 + i;
            Specialiser x = Checks.having(Costs.thousand(fit[i]));
            Checks.gives("make with " + gone, 28, () -> x.make(0));
            Checks.gives("gone through", gone, () -> x.told(4));
            Checks.gives("expressions", gone, () -> x.told(1));
        }
        String[] tooMany = {"f0(a*a+a*a<a*a)", "a*a+a*a<a*a+a*a"};
        for (String last : tooMany) {
            Specialiser x = Checks.having(Costs.thousand(last));
            Checks.unsupported("make with more", () -> x.make(0));
            Checks.gives("told", 0, () -> x.told(4));
            Checks.index("no version", () -> x.version(0, 0));
        }
        Specialiser x = Checks.having(Costs.thousand(tooMany[1]));
        Checks.unsupported("make with 1004", () -> x.make(0));
        Checks.gives("make with 36 fewer", 27, () -> x.make(1));
        Checks.gives("gone through", 968, () -> x.told(4));
    }

    /** What is not asked is not counted, what is asked in several VERSIONS is counted in each. */
    private static void goneThroughEachTime() {
        gone(1, "f(p) = ((p));");
        gone(3, "f(p) = if 1 then p else p + (p + p);");
        gone(5, "f(p) = if 0 then p else p + p;");
        gone(6, "f(p) = if p then p + p else p;");
        gone(3, "f(p) = let y = 1 in p;");
        gone(2, "f(p) = g(1); g(a) = a*a + a*a;");
        gone(3 + 3, "f(p) = g(p, 1); g(a, b) = a + b;");
        gone(7 + 3 + 3, "f(p) = g(p, 1) + g(p, 2); g(a, b) = a + b;");
        gone(7 + 3, "f(p) = g(p, 1) + g(p, 1); g(a, b) = a + b;");
    }

    private static void gone(int due, String text) {
        Specialiser x = Checks.having(text);
        x.make(0);
        Checks.gives("gone through of " + text, due, () -> x.told(4));
    }

    // ---- version, told

    private static void versionAtItsEnds() {
        int[] far = {MIN, -1, 0, 1, MAX};
        Specialiser none = new Specialiser();
        for (int k : far) {
            Checks.index("version(" + k + ", 0) with nothing made", () -> none.version(k, 0));
        }
        Specialiser x = Checks.having("f(p) = p + g(p, 3); g(a, b) = a*b;");
        Checks.index("version(0, 0) with a program alone", () -> x.version(0, 0));
        x.make(0);
        int[] last = {1, 2, 1, 3, 0, 0, 0, 3, 0, 0};
        for (int what = 0; what < 10; what++) {
            int w = what;
            Checks.gives("version(1, " + w + ")", last[w], () -> x.version(1, w));
            Checks.index("version(2, " + w + ")", () -> x.version(2, w));
            Checks.index("version(-1, " + w + ")", () -> x.version(-1, w));
        }
        int[] noWhat = {MIN, -1, 10, MAX};
        for (int what : noWhat) {
            Checks.index("version(0, " + what + ")", () -> x.version(0, what));
            Checks.index("version(2, " + what + ")", () -> x.version(2, what));
        }
        Checks.index("version(2147483647, 0)", () -> x.version(MAX, 0));
        Checks.index("version(-2147483648, 0)", () -> x.version(MIN, 0));
    }

    private static void toldAtItsEnds() {
        Specialiser x = new Specialiser();
        int[] noWhat = {MIN, -1, 8, MAX};
        for (int what : noWhat) {
            Checks.index("told(" + what + ")", () -> x.told(what));
        }
        Checks.tape(x, "f(p) = g(2)*p; g(a) = a;");
        x.read();
        for (int what = 0; what < 8; what++) {
            int w = what;
            Checks.gives("told(" + w + ") before a make", 0, () -> x.told(w));
        }
        Checks.index("a make that throws", () -> x.make(2));
        for (int what = 0; what < 5; what++) {
            int w = what;
            Checks.gives("told(" + w + ") behind one that threw", 0, () -> x.told(w));
        }
        x.make(0);
        int[] due = {1, 3, 1, 1, 4};
        for (int what = 0; what < 5; what++) {
            int w = what;
            Checks.gives("told(" + w + ")", due[w], () -> x.told(w));
        }
    }

    // ---- print, out, back

    private static void printed(String due, int number) {
        Specialiser x = Checks.having("f(p) = p; g(p, q) = p + q;");
        x.know(0, number);
        x.make(0);
        Checks.same("print of " + number, Checks.out(x), "v0() = " + due + ";\n");
        x.know(0, number);
        x.make(1);
        Checks.same("print of " + number + " within", Checks.out(x), "v0(a) = (" + due + " + a);\n");
        Checks.gives("back", 16 + due.length(), () -> x.back());
        Checks.gives("read again", 1, () -> x.read());
        x.give(0);
        Checks.gives("run", 1, () -> x.run(false, 0, 5));
        Checks.gives("the number", number, () -> x.ran(0));
    }

    private static void printedNumbers() {
        printed("(-2147483647 - 1)", MIN);
        printed("-2147483647", MIN + 1);
        printed("2147483647", MAX);
        printed("2147483646", MAX - 1);
        int[] others = {0, 1, -1, 9, 10, 11, -9, -10, 99, 100, 101, 1000, 999999999, 1000000000, -1000000000, 1000000001};
        for (int number : others) {
            printed(Integer.toString(number), number);
        }
    }

    /** As many lets as may be; the first is no NUMBER, so all stay. */
    private static void printedLets() {
        String text = "f() = let y = l() in " + "let y = y in ".repeat(15) + "y; l() = l();";
        StringBuilder due = new StringBuilder("v0() = (let x0 = v1() in ");
        for (int i = 1; i < 16; i++) {
            due.append("(let x").append(i).append(" = x").append(i - 1).append(" in ");
        }
        due.append("x15").append(")".repeat(16)).append(";\nv1() = v1();\n");
        Checks.same("print of " + text, Checks.longOut(() -> {
            Specialiser x = Checks.having(text);
            x.make(0);
            return x;
        }), due.toString());
    }

    private static void nothingToPrint() {
        Specialiser x = new Specialiser();
        Checks.state("print of a new object", () -> x.print());
        Checks.tape(x, "f() = 1;");
        x.read();
        Checks.state("print with a program alone", () -> x.print());
        Checks.index("a make that throws", () -> x.make(1));
        Checks.state("print behind it", () -> x.print());
        x.make(0);
        Checks.gives("print", 10, () -> x.print());
        Checks.tape(x, "f() = ;");
        x.read();
        Checks.gives("print behind a read with a fault", 10, () -> x.print());
        Checks.tape(x, "f() = 12;");
        x.read();
        Checks.state("print behind a read", () -> x.print());
        Checks.gives("out stays", '1', () -> x.out(7));
    }

    private static void outAtItsEnds() {
        Specialiser x = new Specialiser();
        int[] far = {MIN, -1, 0, 1, MAX};
        for (int i : far) {
            Checks.index("out(" + i + ") of a new object", () -> x.out(i));
        }
        Checks.tape(x, "f() = 12; g() = 7;");
        x.read();
        x.make(0);
        Checks.index("out(0) before a print", () -> x.out(0));
        Checks.gives("print", 11, () -> x.print());
        Checks.gives("the first", 'v', () -> x.out(0));
        Checks.gives("the last", '\n', () -> x.out(10));
        int[] none = {MIN, -1, 11, MAX};
        for (int i : none) {
            Checks.index("out(" + i + ")", () -> x.out(i));
        }
        x.make(1);
        Checks.gives("a make leaves it", '\n', () -> x.out(10));
        Checks.gives("print of fewer", 10, () -> x.print());
        Checks.gives("the last", '\n', () -> x.out(9));
        Checks.index("what was there before is gone", () -> x.out(10));
    }

    private static void backAtItsEnds() {
        Specialiser none = new Specialiser();
        none.feed(1, 2, 3, 4, 5);
        Checks.gives("back of nothing", 0, () -> none.back());
        Checks.gives("the tape is empty", 0, () -> none.told(7));
        // Two E's deeper with each if: what is in the twelfth is within 24.
        String deep = "v0(a) = " + "(if a then (-2147483647 - 1) else ".repeat(11) + "(if ";
        for (int bytes = 7999; bytes <= 8001; bytes++) {
            int due = bytes;
            Specialiser x = Costs.printed(bytes);
            x.feed(0, 0, 0, 0, 0);
            if (bytes <= 8000) {
                Checks.gives("back of " + bytes, due, () -> x.back());
                Checks.gives("the tape", due, () -> x.told(7));
                Checks.gives("read again", -6, () -> x.read());
                Checks.gives("its place", deep.length(), () -> x.place());
            } else {
                Checks.state("back of " + bytes, () -> x.back());
                Checks.gives("the tape stays", 20, () -> x.told(7));
                Checks.gives("it stays as it was", -1, () -> x.read());
            }
            Checks.gives("out stays", '\n', () -> x.out(due - 1));
            Checks.index("and is not longer", () -> x.out(due));
        }
    }

    /** What is PRINTED has brackets round each SIGN, so it may lie deeper than the text did. */
    private static void readAgainTooDeep() {
        Specialiser x = Checks.having("f(p) = " + "p*p + p*f(".repeat(8) + "p" + ")".repeat(8) + ";");
        x.make(0);
        String due = "v0(a) = " + "((a * a) + (a * v0(".repeat(8) + "a" + ")))".repeat(8) + ";\n";
        Checks.same("print", Checks.out(x), due);
        Checks.gives("back", due.length(), () -> x.back());
        Checks.gives("read again", -6, () -> x.read());
        // Three E's deeper with each call: that in its brackets is within 24 at the eighth.
        Checks.gives("place", due.indexOf("a)))"), () -> x.place());
        Specialiser y = Checks.having("f(p) = " + "p*p + p*f(".repeat(7) + "p" + ")".repeat(7) + ";");
        y.make(0);
        y.print();
        y.back();
        Checks.gives("read again with one fewer", 1, () -> y.read());
    }
}
