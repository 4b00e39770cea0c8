/** The bounds of runs (2 RUNS, promises 14 to 16): at each number of the document, one below it and one above it. */
public final class RunBoundsTest {
    private static final int MOST_STEPS = 20000;
    private static final int MIN = Integer.MIN_VALUE;
    private static final int MAX = Integer.MAX_VALUE;
    private static final String[] PARAMS = {"", "a", "a, b", "a, b, c", "a, b, c, d"};

    public static void main(String[] args) {
        fourGiven();
        stepsThatMayBeTold();
        mostSteps();
        oneStepTooMany();
        fewestSteps();
        greatestDepth();
        everyKindAtTheGreatestDepth();
        stepsFirst();
        numbersThatWrap();
        comparisons();
        conditions();
        asManyGivenAsParams();
        functionsAndVersionsThatAreThere();
        nothingToRun();
        exceptionNamedFirst();
        ranAtItsEnds();
        Checks.end();
    }

    // ---- give

    private static void fourGiven() {
        Specialiser x = new Specialiser();
        int[] numbers = {MIN, MAX, 0, -1};
        for (int i = 0; i < 4; i++) {
            int count = i;
            Checks.gives("given before", count, () -> x.told(6));
            Checks.gives("give", count + 1, () -> x.give(numbers[count]));
        }
        Checks.state("a fifth", () -> x.give(5));
        Checks.state("and again", () -> x.give(6));
        Checks.gives("given", 4, () -> x.told(6));
        Checks.tape(x, "f(a, b, c, d) = if a == (-2147483647 - 1) then (b - c) + d else 0;");
        x.read();
        Checks.gives("run", 1, () -> x.run(false, 0, 20));
        Checks.gives("the four and no other", MAX - 1, () -> x.ran(0));
        Checks.gives("used up", 0, () -> x.told(6));
        Checks.gives("give", 1, () -> x.give(1));
    }

    // ---- steps

    private static Specialiser withVersion(String text) {
        Specialiser x = Checks.having(text);
        x.make(0);
        return x;
    }

    private static void stepsThatMayBeTold() {
        Specialiser x = withVersion("f(p) = p;");
        int[] may = {1, 2, MOST_STEPS - 1, MOST_STEPS};
        int[] mayNot = {MIN, -20000, -1, MOST_STEPS + 1, MAX};
        for (boolean made : new boolean[] {false, true}) {
            for (int steps : may) {
                x.give(9);
                Checks.gives("run with " + steps, 1, () -> x.run(made, 0, steps));
                Checks.ran("run with " + steps, x, 9, 1, 1);
            }
            x.give(9);
            for (int steps : mayNot) {
                Checks.argument("run with " + steps, () -> x.run(made, 0, steps));
                Checks.gives("given stays", 1, () -> x.told(6));
            }
            Checks.gives("run with 0", 2, () -> x.run(made, 0, 0));
            Checks.gives("given is used up", 0, () -> x.told(6));
        }
    }

    private static void mostSteps() {
        for (int n = MOST_STEPS - 1; n <= MOST_STEPS; n++) {
            int steps = n;
            Specialiser x = withVersion("f(p) = " + Costs.steps(n) + ";" + Costs.FUNCTIONS);
            for (boolean made : new boolean[] {false, true}) {
                x.give(0);
                Checks.gives("run of " + n + " steps", 1, () -> x.run(made, 0, MOST_STEPS));
                Checks.gives("its steps", steps, () -> x.ran(1));
                x.give(0);
                Checks.gives("run of " + n + " with just so many", 1, () -> x.run(made, 0, steps));
                x.give(0);
                Checks.gives("run of " + n + " with one fewer", 2, () -> x.run(made, 0, steps - 1));
                Checks.gives("it gave nothing", 0, () -> x.ran(0));
                Checks.gives("its steps", steps - 1, () -> x.ran(1));
            }
        }
    }

    private static void oneStepTooMany() {
        Specialiser x = withVersion("f(p) = " + Costs.steps(MOST_STEPS + 1) + ";" + Costs.FUNCTIONS);
        for (boolean made : new boolean[] {false, true}) {
            x.give(0);
            Checks.gives("run of 20001 steps", 2, () -> x.run(made, 0, MOST_STEPS));
            Checks.gives("it gave nothing", 0, () -> x.ran(0));
            Checks.gives("its steps", MOST_STEPS, () -> x.ran(1));
        }
    }

    private static void fewestSteps() {
        Specialiser x = withVersion("f(p) = p + 1;");
        for (boolean made : new boolean[] {false, true}) {
            int[] depths = {0, 1, 2, 2};
            for (int steps = 0; steps < 4; steps++) {
                int n = steps;
                x.give(4);
                Checks.gives("run with " + n, n < 3 ? 2 : 1, () -> x.run(made, 0, n));
                Checks.ran("run with " + n, x, n < 3 ? 0 : 5, n, depths[n]);
            }
        }
    }

    // ---- depth

    private static void greatestDepth() {
        for (int n = 158; n <= 163; n++) {
            int depth = n;
            Specialiser x = withVersion("f(p) = " + Costs.depth(n) + ";" + Costs.FUNCTIONS);
            for (boolean made : new boolean[] {false, true}) {
                x.give(0);
                Checks.gives("run to depth " + n, depth > 160 ? 3 : 1, () -> x.run(made, 0, MOST_STEPS));
                Checks.gives("it gave", 0, () -> x.ran(0));
                Checks.gives("its depth", Math.min(160, depth), () -> x.ran(2));
            }
        }
    }

    /** d's E is at DEPTH 2*n + 1 of a run, so what stands for X is at 160 behind 79 calls. */
    private static void everyKindAtTheGreatestDepth() {
        String[] fit = {"7", "-7", "n", "(7)"};
        String[] tooDeep = {"n + 1", "1 < n", "let y = 1 in y", "if n then 1 else 2", "k()", "l(1)", "d(0)"};
        String text = "d(n) = if n then d(n - 1) else X; k() = 5; l(a) = a;";
        for (String inner : fit) {
            Specialiser x = Checks.having(text.replace("X", inner));
            x.give(79);
            Checks.gives("run with " + inner + " at depth 160", 1, () -> x.run(false, 0, MOST_STEPS));
            Checks.gives("its steps", 79 * 6 + 3, () -> x.ran(1));
            Checks.gives("its depth", 160, () -> x.ran(2));
        }
        for (String inner : tooDeep) {
            Specialiser x = Checks.having(text.replace("X", inner));
            x.give(79);
            Checks.gives("run with what is in " + inner + " at depth 161", 3, () -> x.run(false, 0, MOST_STEPS));
            Checks.ran("run with what is in " + inner + " at depth 161", x, 0, 79 * 6 + 3, 160);
            x.give(78);
            Checks.gives("run with a call fewer", 1 + (inner.equals("d(0)") ? 2 : 0), () -> x.run(false, 0, 490));
        }
    }

    /**
     * DEPTH 161 would first be in the n - 1 of the 79th call: behind d(p + 79) with 4 STEPS, 78 calls with 6 each,
     * and the if, n, the call and - (that is at 160, or, behind p +, at 161 itself).
     */
    private static void stepsFirst() {
        for (int n = 161; n <= 162; n++) {
            Specialiser x = withVersion("f(p) = " + Costs.depth(n) + ";" + Costs.FUNCTIONS);
            int ahead = n == 161 ? 4 + 78 * 6 + 4 : 2 + 4 + 78 * 6 + 3;
            for (boolean made : new boolean[] {false, true}) {
                ends(x, made, ahead - 1, 2, ahead - 1);
                ends(x, made, ahead, 2, ahead);
                ends(x, made, ahead + 1, 3, ahead);
                ends(x, made, MOST_STEPS, 3, ahead);
            }
        }
    }

    private static void ends(Specialiser x, boolean made, int told, int end, int steps) {
        x.give(0);
        Checks.gives("run with " + told, end, () -> x.run(made, 0, told));
        Checks.gives("what it gave", 0, () -> x.ran(0));
        Checks.gives("its steps", steps, () -> x.ran(1));
    }

    // ---- numbers

    /** In a run of the FUNCTION, of a VERSION with nothing KNOWN, and as a NUMBER of one with all KNOWN. */
    private static void number(int due, String e, int a, int b) {
        Specialiser x = withVersion("f(a, b) = " + e + ";");
        String what = e + " of " + a + ", " + b;
        for (boolean made : new boolean[] {false, true}) {
            x.give(a);
            x.give(b);
            Checks.gives("run of " + what, 1, () -> x.run(made, 0, 20));
            Checks.gives(what, due, () -> x.ran(0));
        }
        x.know(0, a);
        x.know(1, b);
        x.make(0);
        Checks.gives(what + " is a number", 1, () -> x.version(0, 5));
        Checks.gives("run of what is known of " + what, 1, () -> x.run(true, 0, 1));
        Checks.gives("known of " + what, due, () -> x.ran(0));
    }

    private static void numbersThatWrap() {
        number(MAX, "a + b", MAX - 1, 1);
        number(MIN, "a + b", MAX, 1);
        number(-2, "a + b", MAX, MAX);
        number(0, "a + b", MIN, MIN);
        number(MAX, "a + b", MIN, -1);
        number(MIN, "a - b", MIN + 1, 1);
        number(MAX, "a - b", MIN, 1);
        number(MIN, "a - b", 0, MIN);
        number(-1, "a - b", MAX, MIN);
        number(1, "a*b", MAX, MAX);
        number(0, "a*b", MIN, MIN);
        number(MIN, "a*b", MIN, -1);
        number(MIN, "a*b", 65536, 32768);
        number(0, "a*b", 65536, 65536);
        number(2147395600, "a*b", 46340, 46340);
        number(-2147479015, "a*b", 46341, 46341);
    }

    private static void comparisons() {
        number(1, "a < b", MIN, MAX);
        number(0, "a < b", MAX, MIN);
        number(1, "a < b", MIN, MIN + 1);
        number(0, "a < b", MIN, MIN);
        number(0, "a < b", MAX, MAX);
        number(1, "a < b", -1, 0);
        number(0, "a < b", 0, -1);
        number(0, "a < b", 0, 0);
        number(1, "a == b", MIN, MIN);
        number(0, "a == b", MIN, MAX);
        number(0, "a == b", 0, 1);
        number(0, "a == b", MIN, 0);
    }

    private static void conditions() {
        number(5, "if a then 5 else b", 1, 6);
        number(5, "if a then 5 else b", -1, 6);
        number(5, "if a then 5 else b", MIN, 6);
        number(5, "if a then 5 else b", 65536, 6);
        number(6, "if a then 5 else b", 0, 6);
    }

    // ---- what may be run

    private static void asManyGivenAsParams() {
        StringBuilder text = new StringBuilder();
        for (int f = 0; f < PARAMS.length; f++) {
            text.append("f").append(f).append("(").append(PARAMS[f]).append(") = ").append(f).append("; ");
        }
        for (int params = 0; params <= 4; params++) {
            int f = params;
            for (int given = 0; given <= 4; given++) {
                for (boolean made : new boolean[] {false, true}) {
                    Specialiser x = Checks.having(text.toString());
                    x.make(params);
                    for (int i = 0; i < given; i++) {
                        x.give(i);
                    }
                    int k = made ? 0 : f;
                    String what = "run of " + params + " params with " + given;
                    if (given == params) {
                        Checks.gives(what, 1, () -> x.run(made, k, 1));
                        Checks.ran(what, x, params, 1, 1);
                    } else {
                        Checks.argument(what, () -> x.run(made, k, 1));
                        Checks.ran(what, x, 0, 0, 0);
                    }
                    int left = given == params ? 0 : given;
                    Checks.gives("given behind " + what, left, () -> x.told(6));
                }
            }
        }
        paramsThatAreLeft();
    }

    private static void paramsThatAreLeft() {
        Specialiser x = Checks.having("f(a, b, c, d) = ((a*10 + b)*10 + c)*10 + d;");
        x.know(0, 1);
        x.know(2, 3);
        x.make(0);
        x.give(2);
        Checks.argument("one of two", () -> x.run(true, 0, 20));
        x.give(4);
        Checks.gives("two of two", 1, () -> x.run(true, 0, 20));
        Checks.gives("in order", 1234, () -> x.ran(0));
        x.give(2);
        x.give(4);
        x.give(6);
        Checks.argument("three of two", () -> x.run(true, 0, 20));
        Checks.gives("given stays", 3, () -> x.told(6));
    }

    private static void functionsAndVersionsThatAreThere() {
        Specialiser x = Checks.having("f(p) = p + g(p, 1); g(a, b) = b; h(p) = 3;");
        Checks.gives("make", 2, () -> x.make(0));
        x.give(4);
        int[] none = {MIN, -1, 3, MAX};
        for (int k : none) {
            Checks.index("run of function " + k, () -> x.run(false, k, 20));
        }
        int[] noVersion = {MIN, -1, 2, MAX};
        for (int k : noVersion) {
            Checks.index("run of version " + k, () -> x.run(true, k, 20));
        }
        Checks.gives("run of the last function", 1, () -> x.run(false, 2, 20));
        x.give(4);
        Checks.gives("run of the last version", 1, () -> x.run(true, 1, 20));
        Checks.gives("it gave", 1, () -> x.ran(0));
    }

    private static void nothingToRun() {
        Specialiser x = new Specialiser();
        Checks.state("no program", () -> x.run(false, 0, 1));
        Checks.state("no versions and no program", () -> x.run(true, 0, 1));
        Checks.tape(x, "f() = ;");
        x.read();
        Checks.state("no program behind a fault", () -> x.run(false, 0, 1));
        Checks.tape(x, "f() = 1;");
        x.read();
        Checks.state("a program, no versions", () -> x.run(true, 0, 1));
        Checks.gives("run of the program", 1, () -> x.run(false, 0, 1));
        x.make(0);
        Checks.gives("run of a version", 1, () -> x.run(true, 0, 1));
        Checks.tape(x, "f() = 1;");
        x.read();
        Checks.state("the versions are gone", () -> x.run(true, 0, 1));
    }

    private static void exceptionNamedFirst() {
        Specialiser x = new Specialiser();
        Checks.state("no program, function, steps", () -> x.run(false, 5, -1));
        Checks.state("no versions, version, steps", () -> x.run(true, 5, -1));
        Checks.tape(x, "f(p) = p;");
        x.read();
        Checks.state("no versions, version, steps with a program", () -> x.run(true, 5, -1));
        Checks.index("no function, steps, nothing given", () -> x.run(false, 1, -1));
        Checks.argument("steps, nothing given", () -> x.run(false, 0, -1));
        x.make(0);
        Checks.index("no version, steps, nothing given", () -> x.run(true, 1, MOST_STEPS + 1));
        Checks.argument("steps, nothing given of a version", () -> x.run(true, 0, MOST_STEPS + 1));
    }

    private static void ranAtItsEnds() {
        Specialiser x = Checks.having("f(p) = p + 1;");
        int[] none = {MIN, -1, 3, MAX};
        for (int what : none) {
            Checks.index("ran(" + what + ") before a run", () -> x.ran(what));
        }
        Checks.ran("before a run", x, 0, 0, 0);
        x.give(MAX);
        Checks.gives("run", 1, () -> x.run(false, 0, 3));
        Checks.ran("run", x, MIN, 3, 2);
        for (int what : none) {
            Checks.index("ran(" + what + ")", () -> x.ran(what));
        }
        Checks.argument("a run that throws", () -> x.run(false, 0, 3));
        Checks.ran("it is not the latest", x, MIN, 3, 2);
        x.give(1);
        Checks.gives("a run that ends by 2", 2, () -> x.run(false, 0, 2));
        Checks.ran("it is the latest", x, 0, 2, 2);
    }
}
