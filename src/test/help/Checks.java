import java.util.function.IntSupplier;
import java.util.function.Supplier;

/** What the tests share: texts onto the tape, answers as texts, and the count of the wrong ones. */
final class Checks {
    /** An object is used for 512 calls at most, so a long OUT is looked at on several that were made alike. */
    private static final int BYTES_OF_ONE = 150;

    private static int wrong = 0;
    private static int done = 0;

    private Checks() {
    }

    static void same(String what, Object got, Object due) {
        done++;
        if (!got.equals(due)) {
            wrong++;
            System.out.println(what + " answered " + got + ", due is " + due);
        }
    }

    /** The call's number, or the name of what it throws; what only the machine throws is then never due. */
    static String answer(IntSupplier call) {
        try {
            return Integer.toString(call.getAsInt());
        } catch (RuntimeException e) {
            return "throws." + e.getClass().getSimpleName();
        }
    }

    static void gives(String what, int due, IntSupplier call) {
        same(what, answer(call), Integer.toString(due));
    }

    static void state(String what, IntSupplier call) {
        same(what, answer(call), "throws.IllegalStateException");
    }

    static void index(String what, IntSupplier call) {
        same(what, answer(call), "throws.IndexOutOfBoundsException");
    }

    static void argument(String what, IntSupplier call) {
        same(what, answer(call), "throws.IllegalArgumentException");
    }

    static void unsupported(String what, IntSupplier call) {
        same(what, answer(call), "throws.UnsupportedOperationException");
    }

    /** Puts a text behind the tape, just as long as it is. */
    static void tape(Specialiser x, String text) {
        int before = x.told(7);
        for (int i = 0; i < text.length(); i += 20) {
            x.feed(four(text, i), four(text, i + 4), four(text, i + 8), four(text, i + 12), four(text, i + 16));
        }
        x.cut(before + text.length());
    }

    static int four(String text, int from) {
        int bytes = 0;
        for (int i = from; i < from + 4; i++) {
            bytes = bytes << 8 | (i < text.length() ? text.charAt(i) & 255 : ' ');
        }
        return bytes;
    }

    static Specialiser having(String text) {
        Specialiser x = new Specialiser();
        tape(x, text);
        int functions = x.read();
        if (functions < 1) {
            same("read of " + text, functions + " at " + x.place(), "a program");
        }
        return x;
    }

    /** A text with a FAULT, on a new object; @ marks its place. */
    static void fault(int number, String marked) {
        int place = marked.indexOf('@');
        Specialiser x = new Specialiser();
        tape(x, marked.replace("@", ""));
        gives("read of " + marked, -number, () -> x.read());
        gives("place of " + marked, place, () -> x.place());
        gives("the tape behind " + marked, 0, () -> x.told(7));
        index("function behind " + marked, () -> x.function(0, 0));
    }

    /** A text with none, on a new object. */
    static Specialiser whole(int functions, String text) {
        Specialiser x = new Specialiser();
        tape(x, text);
        gives("read of " + text, functions, () -> x.read());
        gives("place of " + text, Specialiser.NONE, () -> x.place());
        gives("the tape behind " + text, 0, () -> x.told(7));
        return x;
    }

    static String out(Specialiser x) {
        return bytes(x, 0, x.print());
    }

    /** The same for what may be long: the object is made anew for each part of it. */
    static String longOut(Supplier<Specialiser> made) {
        int length = made.get().print();
        StringBuilder text = new StringBuilder();
        for (int from = 0; from < length; from += BYTES_OF_ONE) {
            Specialiser x = made.get();
            x.print();
            text.append(bytes(x, from, Math.min(length, from + BYTES_OF_ONE)));
        }
        return text.toString();
    }

    private static String bytes(Specialiser x, int from, int to) {
        StringBuilder text = new StringBuilder();
        for (int i = from; i < to; i++) {
            text.append((char) x.out(i));
        }
        return text.toString();
    }

    static void ran(String what, Specialiser x, int number, int steps, int depth) {
        gives(what + ": ran(0)", number, () -> x.ran(0));
        gives(what + ": ran(1)", steps, () -> x.ran(1));
        gives(what + ": ran(2)", depth, () -> x.ran(2));
    }

    static void end() {
        System.out.println(done + " checks, " + wrong + " wrong");
        if (wrong != 0 || done == 0) {
            System.exit(1);
        }
    }
}
