import java.util.function.IntSupplier;

/** "An object is used for at most 512 calls": the dearest calls as often as that, and the last one answers as the first. */
public final class CallsTest {
    private static final int MOST_CALLS = 512;

    public static void main(String[] args) {
        feeds();
        reads();
        makes();
        makesThatThrow();
        prints();
        runs();
        runsOfVersions();
        Checks.end();
    }

    private static int calls(String text) {
        return (text.length() + 19) / 20 + 3;
    }

    /** Calls in turn behind those of Checks.having till 512 are done. */
    private static void all(String what, String text, int due, IntSupplier... turn) {
        int done = calls(text);
        while (done + turn.length <= MOST_CALLS) {
            for (int i = 0; i < turn.length - 1; i++) {
                turn[i].getAsInt();
            }
            done += turn.length;
            Checks.gives(what + " behind " + done + " calls", due, turn[turn.length - 1]);
        }
    }

    private static void feeds() {
        Specialiser x = new Specialiser();
        for (int call = 0; call < MOST_CALLS; call += 2) {
            Checks.gives("feed", 20, () -> x.feed(1, 2, 3, 4, 5));
            Checks.gives("cut", 20, () -> x.cut(0));
        }
        Specialiser y = new Specialiser();
        for (int call = 0; call < MOST_CALLS - 1; call++) {
            Checks.answer(() -> y.feed(1, 2, 3, 4, 5));
        }
        Checks.gives("the tape behind 511 feeds", 8000, () -> y.told(7));
    }

    private static void reads() {
        String text = "f(a) = let y = a in y*y; g(a, b) = if a then f(b) else 1;";
        Specialiser x = Checks.having(text);
        x.make(1);
        x.print();
        all("read", text + " ".repeat(40), 2, () -> x.back(), () -> x.read());
    }

    private static void makes() {
        String text = Costs.thousand("a*a+a*a<a*a");
        Specialiser x = Checks.having(text);
        all("make", text, 28, () -> x.make(0));
    }

    private static void makesThatThrow() {
        String text = Costs.thousand("a*a+a*a<a*a+a*a");
        Specialiser x = Checks.having(text);
        for (int call = calls(text); call < MOST_CALLS - 1; call++) {
            Checks.unsupported("make behind " + call + " calls", () -> x.make(0));
        }
        Checks.gives("make", 27, () -> x.make(1));
    }

    private static void prints() {
        Specialiser x = Costs.printed(8000);
        for (int call = 300; call < MOST_CALLS; call += 2) {
            Checks.gives("print", 8000, () -> x.print());
            Checks.gives("back", 8000, () -> x.back());
        }
    }

    private static void runs() {
        String text = "f(p) = " + Costs.steps(20000) + ";" + Costs.FUNCTIONS;
        Specialiser x = Checks.having(text);
        all("ran", text, 20000, () -> x.give(0), () -> x.run(false, 0, 20000), () -> x.ran(1));
    }

    private static void runsOfVersions() {
        String text = "f(p) = " + Costs.steps(20000) + ";" + Costs.FUNCTIONS;
        Specialiser x = Checks.having(text);
        x.make(0);
        all("ran", text + " ".repeat(20), 20000, () -> x.give(0), () -> x.run(true, 0, 20000), () -> x.ran(1));
    }
}
