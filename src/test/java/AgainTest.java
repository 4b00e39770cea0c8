/**
 * What the document means by 'made anew', of texts by chance and with no second model: where the FUNCTION comes to its
 * end, VERSION 0 gives the same number, in no more STEPS and no greater DEPTH; and what was PRINTED, being read again,
 * has the VERSIONS' numbers and runs as they do.
 */
public final class AgainTest {
    private static final int TEXTS = 3000;
    /** So that the calls of one object stay below 512, with those that ask for all VERSIONS. */
    private static final int LONGEST_TEXT = 3000;
    private static final int MOST_STEPS = 20000;

    private static int made = 0;
    private static int readAgain = 0;
    private static int compared = 0;

    private final Texts by;
    private final String text;
    private final int[] numbers = new int[4];
    private int f;
    private int mask;
    private int params;

    private AgainTest(int seed) {
        by = new Texts(seed);
        text = by.text();
    }

    public static void main(String[] args) {
        for (int seed = 0; seed < TEXTS; seed++) {
            new AgainTest(seed).go();
        }
        Checks.same("enough were made: " + made, made > TEXTS / 3, true);
        Checks.same("enough were read again: " + readAgain, readAgain > TEXTS / 4, true);
        Checks.same("enough were done: " + compared, compared > TEXTS / 4, true);
        Checks.end();
    }

    private void go() {
        Specialiser x = new Specialiser();
        if (text.length() > LONGEST_TEXT) {
            return;
        }
        Checks.tape(x, text);
        int functions = x.read();
        if (functions < 1) {
            return;
        }
        f = by.below(functions);
        params = x.function(f, 0);
        mask = by.below(16) & (1 << params) - 1;
        for (int i = 0; i < 4; i++) {
            numbers[i] = by.chance(80) ? by.below(12) : by.number();
        }
        Specialiser y = madeOne();
        if (y == null) {
            return;
        }
        made++;
        firstVersion(y);
        int[] function = ran(x, false, params, (1 << params) - 1);
        int[] version = ran(y, true, y.version(0, 2), (1 << params) - 1 & ~mask);
        notWorse(function, version);
        again(y, version);
    }

    /** null if too many EXPRESSIONS would be GONE THROUGH. */
    private Specialiser madeOne() {
        Specialiser x = Checks.having(text);
        for (int i = 0; i < params; i++) {
            if ((mask >> i & 1) == 1) {
                x.know(i, numbers[i]);
            }
        }
        return Checks.answer(() -> x.make(f)).startsWith("throws.") ? null : x;
    }

    private void firstVersion(Specialiser x) {
        Checks.gives("function of version 0 of " + text, f, () -> x.version(0, 0));
        Checks.gives("known of version 0 of " + text, mask, () -> x.version(0, 1));
        Checks.gives("left of version 0 of " + text, params - Integer.bitCount(mask), () -> x.version(0, 2));
        for (int i = 0; i < 4; i++) {
            int p = i;
            Checks.gives("number of version 0", (mask >> p & 1) == 1 ? numbers[p] : 0, () -> x.version(0, 6 + p));
        }
    }

    /** How it ended, what it gave, STEPS and DEPTH. */
    private int[] ran(Specialiser x, boolean ofVersions, int count, int given) {
        Checks.same("params of " + text, count, Integer.bitCount(given));
        for (int i = 0; i < params; i++) {
            if ((given >> i & 1) == 1) {
                x.give(numbers[i]);
            }
        }
        int end = x.run(ofVersions, ofVersions ? 0 : f, MOST_STEPS);
        return new int[] {end, x.ran(0), x.ran(1), x.ran(2)};
    }

    private void notWorse(int[] function, int[] version) {
        if (function[0] == 1) {
            compared++;
            Checks.same("end of version 0 of " + text, version[0], 1);
            Checks.same("number of version 0 of " + text, version[1], function[1]);
            Checks.same("more steps of version 0 of " + text, version[2] > function[2], false);
            Checks.same("more depth of version 0 of " + text, version[3] > function[3], false);
        }
    }

    private void again(Specialiser y, int[] version) {
        int count = y.told(0);
        int bytes = y.print();
        if (bytes > 8000) {
            Checks.state("back of " + bytes, () -> y.back());
            return;
        }
        Checks.gives("back", bytes, () -> y.back());
        int functions = y.read();
        if (functions < 0) {
            Checks.same("fault of what was printed of " + text, functions, -6);
            return;
        }
        readAgain++;
        Checks.same("functions of what was printed of " + text, functions, count);
        int more = 0;
        Specialiser z = madeOne();
        int all = 0;
        for (int k = 0; k < count; k++) {
            int v = k;
            Checks.gives("params of " + k + " of " + text, z.version(k, 2), () -> y.function(v, 0));
            Checks.gives("lets of " + k + " of " + text, z.version(k, 4), () -> y.function(v, 2));
            all += z.version(k, 3);
            more += y.function(k, 1) - z.version(k, 3);
        }
        Checks.gives("expressions of all of " + text, all, () -> z.told(1));
        f = 0;
        runsAgain(ran(y, false, y.function(0, 0), (1 << params) - 1 & ~mask), version, more);
    }

    /** Only the least int is PRINTED as more EXPRESSIONS than it is, as three. */
    private void runsAgain(int[] again, int[] version, int more) {
        Checks.same("expressions more in print of " + text, more >= 0 && more % 2 == 0, true);
        if (more == 0) {
            for (int i = 0; i < 4; i++) {
                Checks.same("run " + i + " of what was printed of " + text, again[i], version[i]);
            }
        } else if (again[0] == 1) {
            Checks.same("number of what was printed of " + text, again[1], version[1]);
        }
    }
}
