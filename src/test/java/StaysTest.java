import java.util.ArrayList;
import java.util.List;
import java.util.function.Function;
import java.util.function.IntSupplier;
import java.util.function.Supplier;
import java.util.function.ToIntFunction;

/**
 * "What throws changes nothing", and a FAULT changes nothing but THE TAPE and place(): two objects are made alike, one
 * of them gets the call in question, and then all that can be asked of them, tried or run must be the same of both.
 */
public final class StaysTest {
    private static final String TEXT = "f(p, q) = if p then g(q, p, 1, 2) + one() else let y = q + 1 in y;\n"
            + "g(a, b, c, d) = ((a*3 + b)*3 + c)*3 + d;\none() = 1;\nbig(c, p) = u(0, p);\n"
            + "u(n, p) = if p then p*p+p*p<p*p+p*p else if p then p*p+p*p<p*p+p*p else u(n + 1, p);\n";
    private static final int BIG = 3;
    private static final int FUNCTIONS = 5;
    private static final String STATE = "throws.IllegalStateException";
    private static final String INDEX = "throws.IndexOutOfBoundsException";
    private static final String ARGUMENT = "throws.IllegalArgumentException";
    private static final String UNSUPPORTED = "throws.UnsupportedOperationException";

    private static final List<Function<Specialiser, String>> LOOKS = List.of(
            StaysTest::numbers, StaysTest::functions, StaysTest::versions, StaysTest::out, StaysTest::given,
            StaysTest::givenToVersions, StaysTest::known, StaysTest::print, StaysTest::tape);

    public static void main(String[] args) {
        newObject();
        tapeAlone();
        fullTape();
        programAlone();
        allThere();
        fourGiven();
        longOut();
        faults();
        Checks.end();
    }

    // ---- objects that are made alike

    private static Specialiser withTape() {
        Specialiser x = new Specialiser();
        Checks.tape(x, "h(a, b) = a*7 - b; i() = 3;");
        return x;
    }

    private static Specialiser withAll() {
        Specialiser x = Checks.having(TEXT);
        x.know(0, 4);
        x.make(0);
        x.print();
        x.give(9);
        x.run(true, 0, 50);
        x.know(0, -3);
        x.know(3, 8);
        x.give(5);
        x.give(-6);
        Checks.tape(x, "$");
        x.read();
        Checks.tape(x, "h(a, b) = a*7 - b; i() = 3;");
        return x;
    }

    private static Specialiser withFourGiven() {
        Specialiser x = withAll();
        x.give(7);
        x.give(11);
        return x;
    }

    private static Specialiser withFullTape() {
        Specialiser x = new Specialiser();
        Checks.tape(x, "h(a, b) = a*7 - b;" + " ".repeat(7972) + "i() = 3; ;");
        return x;
    }

    private static Specialiser withLongOut() {
        Specialiser x = Costs.printed(8001);
        x.give(4);
        x.know(2, 9);
        Checks.tape(x, "h(a, b) = a*7 - b; i() = 3;");
        return x;
    }

    // ---- looks at an object; each may use it up

    private static String numbers(Specialiser x) {
        List<String> seen = new ArrayList<>();
        for (int what = 0; what < 8; what++) {
            int w = what;
            see(seen, () -> x.told(w));
        }
        for (int what = 0; what < 3; what++) {
            int w = what;
            see(seen, () -> x.ran(w));
        }
        return seen.toString();
    }

    private static String functions(Specialiser x) {
        List<String> seen = new ArrayList<>();
        for (int i = 0; i < 18; i++) {
            int f = i / 3;
            int what = i % 3;
            see(seen, () -> x.function(f, what));
        }
        return seen.toString();
    }

    private static String versions(Specialiser x) {
        List<String> seen = new ArrayList<>();
        for (int i = 0; i < 40; i++) {
            int k = i / 10;
            int what = i % 10;
            see(seen, () -> x.version(k, what));
        }
        return seen.toString();
    }

    private static String out(Specialiser x) {
        List<String> seen = new ArrayList<>();
        for (int i = 0; i < 60; i++) {
            int at = i;
            see(seen, () -> x.out(at));
        }
        see(seen, () -> x.out(7999));
        see(seen, () -> x.out(8000));
        see(seen, () -> x.out(8001));
        return seen.toString();
    }

    /** A run uses up what is GIVEN, so of the FUNCTIONS that fit the first is run. */
    private static String given(Specialiser x) {
        return runs(x, false);
    }

    private static String givenToVersions(Specialiser x) {
        return runs(x, true);
    }

    private static String runs(Specialiser x, boolean made) {
        List<String> seen = new ArrayList<>();
        for (int i = 0; i < FUNCTIONS; i++) {
            int k = i;
            see(seen, () -> x.run(made, k, 100));
            see(seen, () -> x.ran(0));
            see(seen, () -> x.ran(1));
            see(seen, () -> x.ran(2));
            see(seen, () -> x.told(6));
        }
        return seen.toString();
    }

    private static String known(Specialiser x) {
        List<String> seen = new ArrayList<>();
        see(seen, () -> x.make(1));
        seen.add(versions(x));
        see(seen, () -> x.told(5));
        return seen.toString();
    }

    private static String print(Specialiser x) {
        List<String> seen = new ArrayList<>();
        see(seen, () -> x.print());
        seen.add(out(x));
        return seen.toString();
    }

    private static String tape(Specialiser x) {
        List<String> seen = new ArrayList<>();
        see(seen, () -> x.read());
        see(seen, () -> x.place());
        seen.add(functions(x));
        see(seen, () -> x.make(0));
        seen.add(print(x));
        return seen.toString();
    }

    private static void see(List<String> seen, IntSupplier call) {
        seen.add(Checks.answer(call));
    }

    // ---- calls that throw

    private static void stays(String what, String thrown, Supplier<Specialiser> made, ToIntFunction<Specialiser> call) {
        Specialiser first = made.get();
        int place = first.place();
        Checks.same(what, Checks.answer(() -> call.applyAsInt(first)), thrown);
        Checks.gives("place behind " + what, place, () -> first.place());
        for (int i = 0; i < LOOKS.size(); i++) {
            Specialiser x = made.get();
            Specialiser y = made.get();
            Checks.answer(() -> call.applyAsInt(y));
            Checks.same("look " + i + " behind " + what, LOOKS.get(i).apply(y), LOOKS.get(i).apply(x));
        }
    }

    private static void newObject() {
        Supplier<Specialiser> made = Specialiser::new;
        stays("new: cut(1)", ARGUMENT, made, x -> x.cut(1));
        stays("new: cut(-1)", ARGUMENT, made, x -> x.cut(-1));
        stays("new: function(0, 0)", INDEX, made, x -> x.function(0, 0));
        stays("new: know(4, 1)", INDEX, made, x -> x.know(4, 1));
        stays("new: make(0)", STATE, made, x -> x.make(0));
        stays("new: version(0, 0)", INDEX, made, x -> x.version(0, 0));
        stays("new: print()", STATE, made, x -> x.print());
        stays("new: out(0)", INDEX, made, x -> x.out(0));
        stays("new: run(false, 0, 1)", STATE, made, x -> x.run(false, 0, 1));
        stays("new: run(true, 0, 1)", STATE, made, x -> x.run(true, 0, 1));
    }

    private static void tapeAlone() {
        Supplier<Specialiser> made = StaysTest::withTape;
        stays("tape: cut(-1)", ARGUMENT, made, x -> x.cut(-1));
        stays("tape: cut(28)", ARGUMENT, made, x -> x.cut(28));
        stays("tape: make(0)", STATE, made, x -> x.make(0));
        stays("tape: run(false, 0, 1)", STATE, made, x -> x.run(false, 0, 1));
        stays("tape: print()", STATE, made, x -> x.print());
    }

    private static void fullTape() {
        stays("full tape: feed", STATE, StaysTest::withFullTape, x -> x.feed(0x24242424, 0, 0, 0, 0));
        stays("full tape: cut(8001)", ARGUMENT, StaysTest::withFullTape, x -> x.cut(8001));
    }

    private static void programAlone() {
        Supplier<Specialiser> made = () -> Checks.having(TEXT);
        stays("program: print()", STATE, made, x -> x.print());
        stays("program: run(true, 0, 1)", STATE, made, x -> x.run(true, 0, 1));
        stays("program: version(0, 0)", INDEX, made, x -> x.version(0, 0));
        stays("program: make(BIG)", UNSUPPORTED, made, x -> x.make(BIG));
    }

    private static void allThere() {
        Supplier<Specialiser> made = StaysTest::withAll;
        stays("cut(-1)", ARGUMENT, made, x -> x.cut(-1));
        stays("cut(28)", ARGUMENT, made, x -> x.cut(28));
        stays("function(-1, 0)", INDEX, made, x -> x.function(-1, 0));
        stays("function(5, 0)", INDEX, made, x -> x.function(FUNCTIONS, 0));
        stays("function(0, 3)", INDEX, made, x -> x.function(0, 3));
        stays("know(-1, 77)", INDEX, made, x -> x.know(-1, 77));
        stays("know(4, 77)", INDEX, made, x -> x.know(4, 77));
        stays("make(-1)", INDEX, made, x -> x.make(-1));
        stays("make(5)", INDEX, made, x -> x.make(FUNCTIONS));
        stays("make(BIG)", UNSUPPORTED, made, x -> x.make(BIG));
        stays("make(BIG + 1)", UNSUPPORTED, made, x -> x.make(BIG + 1));
        stays("version(-1, 0)", INDEX, made, x -> x.version(-1, 0));
        stays("version(9, 0)", INDEX, made, x -> x.version(9, 0));
        stays("version(0, 10)", INDEX, made, x -> x.version(0, 10));
        stays("told(-1)", INDEX, made, x -> x.told(-1));
        stays("told(8)", INDEX, made, x -> x.told(8));
        stays("out(-1)", INDEX, made, x -> x.out(-1));
        stays("out(40000)", INDEX, made, x -> x.out(40000));
        stays("run(false, -1, 5)", INDEX, made, x -> x.run(false, -1, 5));
        stays("run(false, 5, 5)", INDEX, made, x -> x.run(false, FUNCTIONS, 5));
        stays("run(true, 9, 5)", INDEX, made, x -> x.run(true, 9, 5));
        stays("run(false, 0, -1)", ARGUMENT, made, x -> x.run(false, 0, -1));
        stays("run(false, 0, 20001)", ARGUMENT, made, x -> x.run(false, 0, 20001));
        stays("run(false, 1, 5) with two given", ARGUMENT, made, x -> x.run(false, 1, 5));
        stays("run(true, 0, 5) with two given", ARGUMENT, made, x -> x.run(true, 0, 5));
        stays("ran(-1)", INDEX, made, x -> x.ran(-1));
        stays("ran(3)", INDEX, made, x -> x.ran(3));
    }

    private static void fourGiven() {
        stays("give of a fifth", STATE, StaysTest::withFourGiven, x -> x.give(77));
        stays("run with two too many", ARGUMENT, StaysTest::withFourGiven, x -> x.run(false, 0, 5));
    }

    private static void longOut() {
        stays("back of 8001", STATE, StaysTest::withLongOut, x -> x.back());
    }

    // ---- faults

    private static void faults() {
        String[] texts = {
            "", "$", "zz(b, c) = b*c; h(a) = $", "zz(b, c) = b*c; h(a) = ;", "zz(b) = b; y(c) = c; zz() = 1;",
            "zz(b, c, d) = let y = b in y*(c - d); h() = y;", "zz() = h(); h(a) = 1; i(a, b, c, d) = a;",
            "zz(a, b, c, d, e) = 1;", many(49), "zz(b, c) = " + "(".repeat(24) + "1",
            "zz(b, c) = (b + c)*(b - c)",
        };
        int[] due = {-2, -1, -1, -2, -3, -4, -5, -6, -6, -6, -2};
        for (int i = 0; i < texts.length; i++) {
            String text = texts[i];
            Specialiser first = withAll();
            Checks.gives("read of " + text, due[i], () -> readOf(first, text));
            Checks.gives("the tape is empty", 0, () -> first.told(7));
            for (int look = 0; look < LOOKS.size(); look++) {
                Specialiser x = withAll();
                Specialiser y = withAll();
                x.cut(0);
                readOf(y, text);
                Checks.same("look " + look + " behind " + text, LOOKS.get(look).apply(y), LOOKS.get(look).apply(x));
            }
        }
    }

    private static int readOf(Specialiser x, String text) {
        x.cut(0);
        Checks.tape(x, text);
        return x.read();
    }

    private static String many(int count) {
        StringBuilder text = new StringBuilder();
        for (int f = 0; f < count; f++) {
            text.append("zz").append(f).append("(b) = b*").append(f).append(";");
        }
        return text.toString();
    }
}
