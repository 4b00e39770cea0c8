/** Promises 1, 2, 3, 6 and 13: a new object, the tape, FUNCTIONS, and what is printed as a tape again. */
public final class TapeTest {
    private static final String TWO = "f(a, b) = let c = -1 in if a < b then c else f(a, (b + 1)); g() = 7;";

    public static void main(String[] args) {
        newObject();
        feed();
        cut();
        function();
        readLeaves();
        back();
        Checks.end();
    }

    private static void newObject() {
        Specialiser x = new Specialiser();
        Checks.same("NONE", Specialiser.NONE, -1);
        for (int what = 0; what < 8; what++) {
            int w = what;
            Checks.gives("new: told(" + w + ")", 0, () -> x.told(w));
        }
        Checks.ran("new", x, 0, 0, 0);
        Checks.gives("new: place()", -1, () -> x.place());
        Checks.index("new: function(0, 0)", () -> x.function(0, 0));
        Checks.index("new: version(0, 0)", () -> x.version(0, 0));
        Checks.index("new: out(0)", () -> x.out(0));
        Checks.state("new: make(0)", () -> x.make(0));
        Checks.state("new: make(-1)", () -> x.make(-1));
        Checks.state("new: print()", () -> x.print());
        Checks.state("new: run(false, 0, 1)", () -> x.run(false, 0, 1));
        Checks.state("new: run(true, -1, -1)", () -> x.run(true, -1, -1));
        Checks.gives("new: cut(0)", 0, () -> x.cut(0));
        Checks.gives("new: back()", 0, () -> x.back());
        Checks.gives("new: know(3, 9)", 1, () -> x.know(3, 9));
        Checks.gives("new: give(9)", 1, () -> x.give(9));
        Specialiser y = new Specialiser();
        Checks.gives("another new one: told(5)", 0, () -> y.told(5));
        Checks.gives("another new one: told(6)", 0, () -> y.told(6));
    }

    private static void feed() {
        Specialiser x = new Specialiser();
        // "f(a) = a + 12; g() =" and " 3" with blanks
        Checks.gives("feed", 20, () -> x.feed(0x66286129, 0x203d2061, 0x202b2031, 0x323b2067, 0x2829203d));
        Checks.gives("feed", 40, () -> x.feed(0x20333b20, 0x20202020, 0x0a0a0a0a, 0x20202020, 0x20202020));
        Checks.gives("told(7)", 40, () -> x.told(7));
        Checks.gives("read", 2, () -> x.read());
        x.give(30);
        Checks.gives("run", 1, () -> x.run(false, 0, 9));
        Checks.gives("a + 12", 42, () -> x.ran(0));
        Checks.gives("feed of bytes above 127", 20, () -> x.feed(0x662829ff, -1, -1, -1, -1));
        Checks.gives("read", -1, () -> x.read());
        Checks.gives("place", 3, () -> x.place());
    }

    private static void cut() {
        Specialiser x = new Specialiser();
        Checks.argument("cut(1) of nothing", () -> x.cut(1));
        Checks.argument("cut(-1) of nothing", () -> x.cut(-1));
        x.feed(0x66282920, 0x3d20313b, 0x24242424, 0x24242424, 0x24242424);
        Checks.argument("cut(21)", () -> x.cut(21));
        Checks.argument("cut(-1)", () -> x.cut(-1));
        Checks.argument("cut(-2147483648)", () -> x.cut(Integer.MIN_VALUE));
        Checks.argument("cut(2147483647)", () -> x.cut(Integer.MAX_VALUE));
        Checks.gives("the tape then", 20, () -> x.told(7));
        Checks.gives("cut(20)", 0, () -> x.cut(20));
        Checks.gives("cut(8)", 12, () -> x.cut(8));
        Checks.gives("the tape then", 8, () -> x.told(7));
        Checks.gives("read of f() = 1;", 1, () -> x.read());
        Checks.argument("cut(1) of what was read", () -> x.cut(1));
        x.feed(0, 0, 0, 0, 0);
        Checks.gives("cut(0)", 20, () -> x.cut(0));
        cutWithinAToken(x);
    }

    /** What was cut off is not seen any more, not even as the rest of a TOKEN. */
    private static void cutWithinAToken(Specialiser x) {
        Checks.tape(x, "f() == 1;");
        x.cut(5);
        Checks.gives("read of f() =", -2, () -> x.read());
        Checks.gives("place", 5, () -> x.place());
        Checks.tape(x, "f() = 12a");
        x.cut(8);
        Checks.gives("read of f() = 12", -2, () -> x.read());
        Checks.gives("place", 8, () -> x.place());
    }

    private static void function() {
        Specialiser x = Checks.having(TWO + "h(a, b, c, d) = ((a)); i() = -5; j() = j() + (let a = 1 in let b = 2 in a);");
        int[][] due = {{2, 12, 1}, {0, 1, 0}, {4, 1, 0}, {0, 1, 0}, {0, 7, 2}};
        for (int f = 0; f < due.length; f++) {
            for (int what = 0; what < 3; what++) {
                int g = f;
                int w = what;
                Checks.gives("function(" + f + ", " + what + ")", due[f][what], () -> x.function(g, w));
            }
            int g = f;
            Checks.index("function(" + f + ", 3)", () -> x.function(g, 3));
            Checks.index("function(" + f + ", -1)", () -> x.function(g, -1));
        }
        Checks.index("function(5, 0)", () -> x.function(5, 0));
        Checks.index("function(-1, 0)", () -> x.function(-1, 0));
        Checks.index("function(2147483647, 2147483647)", () -> x.function(Integer.MAX_VALUE, Integer.MAX_VALUE));
    }

    /** What read() does not speak of stays as it is. */
    private static void readLeaves() {
        Specialiser x = Checks.having(TWO);
        x.give(1);
        x.give(2);
        x.run(false, 0, 50);
        int steps = x.ran(1);
        x.make(0);
        int length = x.print();
        x.know(0, 4);
        x.give(5);
        Checks.tape(x, "h(a) = a*10;");
        Checks.gives("read", 1, () -> x.read());
        Checks.gives("known stays", 1, () -> x.told(5));
        Checks.gives("given stays", 1, () -> x.told(6));
        Checks.gives("ran stays", steps, () -> x.ran(1));
        Checks.gives("out stays", '\n', () -> x.out(length - 1));
        Checks.gives("told of the latest make stays", 1, () -> x.told(0));
        Checks.index("but its versions are gone", () -> x.version(0, 0));
        Checks.gives("make with what stayed known", 1, () -> x.make(0));
        Checks.gives("its rest is 40", 1, () -> x.version(0, 5));
        Checks.gives("run with what stayed given", 1, () -> x.run(false, 0, 50));
        Checks.gives("it gave", 50, () -> x.ran(0));
    }

    private static void back() {
        Specialiser x = Checks.having("f(p, q) = let r = p*q in r + (-2147483647 - 1);");
        x.know(1, 3);
        x.make(0);
        String due = "v0(a) = (let x0 = (a * 3) in (x0 + (-2147483647 - 1)));\n";
        Checks.same("printed", Checks.out(x), due);
        Checks.tape(x, "$ something else that goes");
        Checks.gives("back", due.length(), () -> x.back());
        Checks.gives("the tape", due.length(), () -> x.told(7));
        Checks.gives("the first byte of out stays", 'v', () -> x.out(0));
        Checks.gives("version stays", 0, () -> x.version(0, 0));
        Checks.gives("read", 1, () -> x.read());
        Checks.gives("its expressions", 9, () -> x.function(0, 1));
        x.give(5);
        Checks.gives("run", 1, () -> x.run(false, 0, 50));
        Checks.gives("it gave", Integer.MIN_VALUE + 15, () -> x.ran(0));
        Checks.gives("back once more", due.length(), () -> x.back());
        Checks.gives("cut of it", due.length() - 2, () -> x.cut(2));
    }
}
