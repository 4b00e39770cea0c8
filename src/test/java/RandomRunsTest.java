import java.util.function.IntSupplier;

/** Runs of calls by chance, the same each time, on the class and on the model: all answers must be the same. */
public final class RandomRunsTest {
    private static final int RUNS = 5000;
    /** Nothing is promised about an object behind these. */
    private static final int MOST_CALLS = 512;
    private static final int LOOKS = 60;
    private static final String NO_CALL_LEFT = "throws.nothing";

    private final int run;
    private final Texts by;
    private final Specialiser x = new Specialiser();
    private final Model m = new Model();
    private int calls = 0;
    private int functions = 0;
    private int versions = 0;

    private RandomRunsTest(int run) {
        this.run = run;
        by = new Texts(run);
    }

    public static void main(String[] args) {
        int runs = args.length > 0 ? Integer.parseInt(args[0]) : RUNS;
        for (int run = 0; run < runs; run++) {
            new RandomRunsTest(run).go();
        }
        Checks.end();
    }

    private String both(String call, IntSupplier one, IntSupplier other) {
        if (calls >= MOST_CALLS) {
            return NO_CALL_LEFT;
        }
        calls++;
        String got = Checks.answer(one);
        Checks.same("run " + run + ": " + call, got, Checks.answer(other));
        return got;
    }

    private void go() {
        int texts = 1 + by.below(3);
        for (int i = 0; i < texts; i++) {
            text(by.text());
            int more = by.below(60);
            for (int j = 0; j < more; j++) {
                call();
            }
        }
    }

    private void text(String text) {
        for (int i = 0; i < text.length(); i += 20) {
            int[] w = new int[5];
            for (int j = 0; j < 5; j++) {
                w[j] = Checks.four(text, i + 4 * j);
            }
            both("feed", () -> x.feed(w[0], w[1], w[2], w[3], w[4]), () -> m.feed(w[0], w[1], w[2], w[3], w[4]));
        }
        int keep = text.length();
        both("cut(" + keep + ")", () -> x.cut(keep), () -> m.cut(keep));
        reading("of " + text);
    }

    private void reading(String what) {
        String answer = both("read() " + what, () -> x.read(), () -> m.read());
        both("place() " + what, () -> x.place(), () -> m.place());
        if (!answer.startsWith("-") && !answer.startsWith("t")) {
            functions = Integer.parseInt(answer);
            versions = 0;
        }
    }

    private void call() {
        int kind = by.below(16);
        if (kind < 3) {
            making();
        } else if (kind < 6) {
            running(by.chance(50), false);
        } else if (kind < 9) {
            running(by.chance(50), true);
        } else if (kind == 9) {
            printing();
        } else if (kind == 10) {
            int i = by.below(6) - 1;
            int v = by.number();
            both("know(" + i + ", " + v + ")", () -> x.know(i, v), () -> m.know(i, v));
        } else if (kind == 11) {
            int v = by.number();
            both("give(" + v + ")", () -> x.give(v), () -> m.give(v));
        } else if (kind == 12) {
            asking();
        } else if (kind == 13 && by.chance(30)) {
            both("back()", () -> x.back(), () -> m.back());
            reading("of what is back");
        } else if (kind == 14) {
            int n = by.below(60) - 5;
            both("cut(" + n + ")", () -> x.cut(n), () -> m.cut(n));
        } else {
            int a = by.below(functions + 2) - 1;
            int b = by.below(5) - 1;
            both("function(" + a + ", " + b + ")", () -> x.function(a, b), () -> m.function(a, b));
        }
    }

    private void making() {
        for (int i = by.below(3); i > 0; i--) {
            int p = by.below(4);
            int v = by.number();
            both("know(" + p + ", " + v + ")", () -> x.know(p, v), () -> m.know(p, v));
        }
        int f = by.chance(5) ? by.below(functions + 2) - 1 : by.below(Math.max(1, functions));
        String made = both("make(" + f + ")", () -> x.make(f), () -> m.make(f));
        if (!made.startsWith("t")) {
            versions = Integer.parseInt(made);
        }
        for (int what = 0; what < 6; what++) {
            int w = what;
            both("told(" + w + ")", () -> x.told(w), () -> m.told(w));
        }
        int asked = 10 * versions;
        for (int i = 0; i < Math.min(asked, LOOKS); i++) {
            int at = asked <= LOOKS ? i : by.below(asked);
            both("version " + at, () -> x.version(at / 10, at % 10), () -> m.version(at / 10, at % 10));
        }
    }

    private void running(boolean made, boolean fitting) {
        int count = made ? versions : functions;
        int k = by.chance(5) ? by.below(count + 2) - 1 : by.below(Math.max(1, count));
        int wanted = made ? params(() -> m.version(k, 2)) : params(() -> m.function(k, 0));
        for (int i = m.told(6); i < wanted && fitting; i++) {
            int v = by.number();
            both("give(" + v + ")", () -> x.give(v), () -> m.give(v));
        }
        int steps = by.chance(10) ? by.below(20004) - 2 : by.chance(50) ? by.below(40) : 3000;
        both("run(" + made + ", " + k + ", " + steps + ")", () -> x.run(made, k, steps), () -> m.run(made, k, steps));
        for (int what = -1; what < 4; what++) {
            int w = what;
            both("ran(" + w + ")", () -> x.ran(w), () -> m.ran(w));
        }
    }

    private static int params(IntSupplier asked) {
        String answer = Checks.answer(asked);
        return answer.startsWith("t") ? 0 : Integer.parseInt(answer);
    }

    private void printing() {
        String length = both("print()", () -> x.print(), () -> m.print());
        int bytes = length.startsWith("t") ? 5 : Integer.parseInt(length);
        for (int i = -1; i < Math.min(bytes + 1, LOOKS); i++) {
            int at = bytes < LOOKS ? i : by.below(bytes + 2) - 1;
            both("out(" + at + ")", () -> x.out(at), () -> m.out(at));
        }
    }

    private void asking() {
        int k = by.below(versions + 2) - 1;
        int what = by.below(13) - 1;
        both("version(" + k + ", " + what + ")", () -> x.version(k, what), () -> m.version(k, what));
        both("told(" + what + ")", () -> x.told(what), () -> m.told(what));
        both("place()", () -> x.place(), () -> m.place());
    }
}
