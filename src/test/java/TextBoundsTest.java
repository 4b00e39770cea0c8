/**
 * The bounds of texts (1 TEXTS, promises 1 to 6): at each number of the document, one below it and one above it.
 * @ marks the FAULT's place in a text.
 */
public final class TextBoundsTest {
    private static final int MOST_BYTES = 8000;
    private static final int MOST_TOKENS = 1500;
    private static final String E11 = "1*1+1*1<1*1";
    private static final String E15 = "1*1+1*1<1*1+1*1";

    public static void main(String[] args) {
        feedToTheEnd();
        feedFromEveryLength();
        bytesHighestFirst();
        cutAtItsEnds();
        longestTexts();
        everyByte();
        tokensAsLongAsCanBe();
        longestNames();
        wordsAreNoNames();
        longestNumbers();
        greatestNumbers();
        mostTokens();
        firstTokenTooMany();
        mostFunctions();
        firstFunctionTooMany();
        mostParams();
        mostNames();
        expressionsWithinOthers();
        firstTokenOfOneTooDeep();
        textsThatAreEmpty();
        functionAtItsEnds();
        placeAtItsEnds();
        Checks.end();
    }

    // ---- the tape

    private static Specialiser taped(int bytes) {
        Specialiser x = new Specialiser();
        Checks.tape(x, " ".repeat(bytes));
        return x;
    }

    private static void feedToTheEnd() {
        Specialiser x = new Specialiser();
        for (int length = 20; length <= MOST_BYTES; length += 20) {
            Checks.gives("feed to " + length, length, () -> x.feed(0, 0, 0, 0, 0));
        }
        Checks.state("feed beyond 8000", () -> x.feed(1, 2, 3, 4, 5));
        Checks.state("and once more", () -> x.feed(0, 0, 0, 0, 0));
        Checks.gives("the tape then", MOST_BYTES, () -> x.told(7));
        Checks.gives("cut of one", 1, () -> x.cut(MOST_BYTES - 1));
        Checks.state("there is room for one byte, not for twenty", () -> x.feed(0, 0, 0, 0, 0));
        Checks.gives("cut of all", MOST_BYTES - 1, () -> x.cut(0));
        Checks.gives("feed from the beginning", 20, () -> x.feed(0, 0, 0, 0, 0));
    }

    private static void feedFromEveryLength() {
        for (int length = MOST_BYTES - 21; length <= MOST_BYTES; length++) {
            Specialiser x = taped(length);
            String what = "feed from " + length;
            if (length <= MOST_BYTES - 20) {
                Checks.gives(what, length + 20, () -> x.feed(1, 2, 3, 4, 5));
            } else {
                Checks.state(what, () -> x.feed(1, 2, 3, 4, 5));
                Checks.gives("the tape behind " + what, length, () -> x.told(7));
            }
        }
    }

    /** "f(a)", " = a", "*10 ", "+ 7;" and "    ": any other order is no such PROGRAM. */
    private static void bytesHighestFirst() {
        Specialiser x = new Specialiser();
        Checks.gives("feed", 20, () -> x.feed(0x66286129, 0x203d2061, 0x2a313020, 0x2b20373b, 0x20202020));
        Checks.gives("read", 1, () -> x.read());
        x.give(3);
        Checks.gives("run", 1, () -> x.run(false, 0, 10));
        Checks.gives("it gave", 37, () -> x.ran(0));
        Specialiser y = new Specialiser();
        Checks.gives("feed of bytes with their highest bit", 20, () -> y.feed(0x662829ff, -1, -1, -1, -1));
        Checks.gives("read", -1, () -> y.read());
        Checks.gives("place", 3, () -> y.place());
    }

    private static void cutAtItsEnds() {
        int[] lengths = {0, 1, 20, 7999, 8000};
        for (int length : lengths) {
            cut(length, -1, false);
            cut(length, 0, true);
            cut(length, length - 1, length > 0);
            cut(length, length, true);
            cut(length, length + 1, false);
            cut(length, Integer.MIN_VALUE, false);
            cut(length, Integer.MAX_VALUE, false);
        }
        Specialiser x = Checks.having("f() = 1;");
        Checks.argument("cut(1) behind a read", () -> x.cut(1));
        Checks.gives("cut(0) behind a read", 0, () -> x.cut(0));
    }

    private static void cut(int length, int n, boolean may) {
        Specialiser x = taped(length);
        String what = "cut(" + n + ") of " + length;
        if (may) {
            Checks.gives(what, length - n, () -> x.cut(n));
        } else {
            Checks.argument(what, () -> x.cut(n));
        }
        Checks.gives("the tape behind " + what, may ? n : length, () -> x.told(7));
    }

    /** The tape's last byte counts like all others. */
    private static void longestTexts() {
        for (int bytes = MOST_BYTES - 1; bytes <= MOST_BYTES; bytes++) {
            Specialiser x = Checks.whole(1, "f() =" + " ".repeat(bytes - 8) + "12;");
            Checks.gives("run", 1, () -> x.run(false, 0, 1));
            Checks.gives("it gave", 12, () -> x.ran(0));
            Checks.whole(1, "f() = 1;" + "\n".repeat(bytes - 8));
            Checks.fault(2, "f() = 1;" + " ".repeat(bytes - 9) + "@;");
            Checks.fault(1, "f() = 1;" + " ".repeat(bytes - 9) + "@$");
            Checks.fault(2, "f() = 1" + " ".repeat(bytes - 7) + "@");
            Checks.fault(2, "f() =" + " ".repeat(bytes - 7) + "12@");
            Checks.fault(2, "f() =" + " ".repeat(bytes - 8) + "1 @=");
            Checks.fault(2, " ".repeat(bytes) + "@");
        }
        Checks.fault(1, "@" + "a".repeat(MOST_BYTES));
        Checks.fault(1, "f() = @" + "1".repeat(MOST_BYTES - 6));
    }

    // ---- tokens

    /** Between ) and = a blank may stand, a TOKEN can't, and all else is none. */
    private static void everyByte() {
        for (int b = 0; b < 256; b++) {
            char c = (char) b;
            boolean blank = b == 32 || b == 10;
            boolean token = c >= 'a' && c <= 'z' || c >= '0' && c <= '9' || "=(),;+-*<".indexOf(c) >= 0;
            Specialiser x = new Specialiser();
            Checks.tape(x, "f()" + c + "= 1;");
            Checks.gives("read with byte " + b, blank ? 1 : token ? -2 : -1, () -> x.read());
            Checks.gives("place with byte " + b, blank ? -1 : 3, () -> x.place());
        }
    }

    private static void tokensAsLongAsCanBe() {
        Checks.fault(2, "f() @== 1;");
        Checks.fault(2, "f() = 1 @= = 1;");
        Checks.fault(2, "f() = 1 ==@= 1;");
        Checks.fault(2, "f() = 1 ==@== 1;");
        Checks.fault(2, "f() = 1 @2;");
        Checks.fault(2, "f(a, b) = a @b;");
        Checks.fault(4, "f(a, b) = @ab;");
        Checks.fault(1, "f(a) = @1a;");
        Checks.fault(2, "f(a) = 1@(a);");
        Checks.fault(4, "f(a1) = @a;");
        Checks.whole(1, "f(a1)=a1==a1;");
        Checks.whole(1, "f(a)=if a then-1 else-1;");
        Checks.fault(4, "f(a)=@ifa(a);");
        Checks.fault(2, "f(a)=ifa @then 1 else 1;");
        Checks.fault(1, "f(a)=if a then 1@A else 1;");
    }

    private static void longestNames() {
        String[] names = {"a", "abcdefg", "abcdefgh", "a1234567", "z9z9z9z9", "zzzzzzzz", "aaaaaaaa"};
        for (String name : names) {
            Checks.whole(1, name + "() = " + name + "();");
            Checks.whole(1, "f(" + name + ") = " + name + ";");
            Checks.whole(1, "f() = let " + name + " = 1 in " + name + ";");
        }
        String[] tooLong = {"abcdefghi", "a12345678", "zzzzzzzzz", "abcdefgh1", "abcdefghijklmnop", "thenelse1"};
        for (String name : tooLong) {
            Checks.fault(1, "@" + name + "() = 1;");
            Checks.fault(1, "f(@" + name + ") = 1;");
            Checks.fault(1, "f(a) = @" + name + ";");
            Checks.fault(1, "f(a) = @" + name + "(a);");
            Checks.fault(1, "f(a) = let @" + name + " = 1 in a;");
        }
        namesThatDifferInOneByte();
    }

    private static void namesThatDifferInOneByte() {
        Checks.whole(2, "abcdefgh() = 1; abcdefgi() = 1;");
        Checks.whole(2, "abcdefgh() = 1; bbcdefgh() = 1;");
        Checks.whole(2, "abcdefgh() = 1; abcdefg() = 1;");
        Checks.whole(2, "abcdefgh() = 1; bcdefgh() = 1;");
        Checks.fault(3, "abcdefgh() = 1; @abcdefgh() = 1;");
        Checks.whole(1, "f(abcdefg1, abcdefg2) = 1;");
        Checks.fault(3, "f(abcdefg1, @abcdefg1) = 1;");
        Checks.fault(4, "f(abcdefg1) = @abcdefg2;");
        Checks.fault(4, "abcdefg1() = @bbcdefg1();");
    }

    private static void wordsAreNoNames() {
        String[] words = {"if", "then", "else", "let", "in"};
        for (String word : words) {
            Checks.fault(2, "@" + word + "() = 1;");
            Checks.fault(2, "f(@" + word + ") = 1;");
            Checks.fault(2, "f() = let @" + word + " = 1 in 1;");
            Checks.fault(2, "f() = 1 + @" + word + ";");
            Checks.whole(1, "f(" + word + "a, " + word + "1) = " + word + "a + " + word + "1;");
            String shorter = word.substring(0, word.length() - 1);
            Checks.whole(1, shorter + "(a" + word + ") = a" + word + " + " + shorter + "(1);");
        }
    }

    private static void number(int due, String text) {
        Specialiser x = Checks.whole(1, "f() = " + text + ";");
        Checks.gives("run of " + text, 1, () -> x.run(false, 0, 1));
        Checks.gives(text + " is", due, () -> x.ran(0));
    }

    private static void longestNumbers() {
        number(7, "7");
        number(0, "0");
        number(999999999, "999999999");
        number(7, "000000007");
        number(1000000000, "1000000000");
        number(7, "0000000007");
        number(0, "0000000000");
        number(0, "-0000000000");
        Checks.fault(1, "f() = @00000000007;");
        Checks.fault(1, "f() = @00000000000;");
        Checks.fault(1, "f() = -@00000000007;");
        Checks.fault(1, "f() = @10000000000;");
        // 2 to the 64th and one, and 2 to the 128th and one, would be 1 if they wrapped
        Checks.fault(1, "f() = @18446744073709551617;");
        Checks.fault(1, "f() = @340282366920938463463374607431768211457;");
    }

    private static void greatestNumbers() {
        number(2147483646, "2147483646");
        number(2147483647, "2147483647");
        number(-2147483647, "-2147483647");
        number(-2147483647, "- \n 2147483647");
        Checks.fault(1, "f() = @2147483648;");
        Checks.fault(1, "f() = -@2147483648;");
        Checks.fault(1, "f() = @4294967295;");
        Checks.fault(1, "f() = @4294967296;");
        Checks.fault(1, "f() = @4294967297;");
        Checks.fault(1, "f() = @9999999999;");
    }

    /** Thirty FUNCTIONS of fifty TOKENS each, the last one's E without its - a TOKEN less. */
    private static String tokens(int count) {
        StringBuilder text = new StringBuilder();
        for (int f = 0; f < 30; f++) {
            text.append("f").append(f).append("() = if ").append(E15).append(" then ").append(E15);
            text.append(" else ").append(f < 29 || count == MOST_TOKENS ? "-" : "").append(E11).append(";");
        }
        return text.toString();
    }

    private static void mostTokens() {
        String full = tokens(MOST_TOKENS);
        Checks.whole(30, tokens(MOST_TOKENS - 1));
        Checks.whole(30, full);
        Checks.whole(30, full + "  \n ");
        Checks.fault(6, full + "@g() = 1;");
        Checks.fault(6, full + "  \n @g");
        Checks.fault(4, full.replace("f7() = if 1", "f7() = if @a"));
        Checks.fault(6, full.replace("f7() = if 1", "f7() = if a") + "@g");
        String open = full.substring(0, full.length() - 1);
        Checks.fault(2, open + "@");
        Checks.fault(2, open + "+@");
        Checks.fault(6, open + "+@1;");
    }

    /** Of one TOKEN the FAULT with the least number counts. */
    private static void firstTokenTooMany() {
        String less = tokens(MOST_TOKENS - 1);
        String full = tokens(MOST_TOKENS);
        String open = full.substring(0, full.length() - 1);
        Checks.fault(2, less + "@7");
        Checks.fault(2, less + "g@");
        Checks.fault(6, less + "g@(");
        Checks.fault(2, less + "g@)");
        Checks.fault(1, full + "@$");
        Checks.fault(2, full + "@7");
        Checks.fault(2, full + "@;");
        Checks.fault(3, full + "@f3() = 1;");
        Checks.fault(1, open + "+@$");
        Checks.fault(2, open + "+@;");
        Checks.fault(6, open + "+@(");
        Checks.fault(6, open + "+@-");
        Checks.fault(6, open + "+@a");
        Checks.fault(1, open + "@$");
        Checks.fault(2, open + " @1");
    }

    // ---- functions, params, names

    private static String functions(int count) {
        StringBuilder text = new StringBuilder();
        for (int f = 0; f < count; f++) {
            text.append("f").append(f).append("() = ").append(f).append("; ");
        }
        return text.toString();
    }

    private static void mostFunctions() {
        Checks.whole(1, functions(1));
        Checks.whole(47, functions(47));
        Specialiser x = Checks.whole(48, functions(48));
        Checks.gives("run of the last", 1, () -> x.run(false, 47, 1));
        Checks.gives("it gave", 47, () -> x.ran(0));
        Checks.whole(48, "g() = f46(); " + functions(47));
        Checks.fault(6, functions(48) + "@g() = 1;");
        Checks.fault(6, functions(48) + "@f48() = 1; h() = 1;");
    }

    private static void firstFunctionTooMany() {
        Checks.fault(1, functions(48) + "@$");
        Checks.fault(2, functions(48) + "@7");
        Checks.fault(2, functions(48) + "@if");
        Checks.fault(3, functions(48) + "@f0() = 1;");
        Checks.fault(3, functions(48) + "@f47() = 1;");
        Checks.fault(6, functions(48) + "@g $");
        Checks.fault(6, functions(48) + "@g");
        Checks.fault(6, functions(48).replace("= 7", "= a") + "@g");
        Checks.fault(3, functions(47) + "@f0() = 1;");
    }

    private static void mostParams() {
        String[] some = {"", "a", "a, b", "a, b, c", "a, b, c, d"};
        for (int count = 0; count < some.length; count++) {
            int params = count;
            Specialiser x = Checks.whole(1, "f(" + some[count] + ") = f(" + some[count] + ");");
            Checks.gives("params of " + some[count], params, () -> x.function(0, 0));
        }
        Checks.fault(6, "f(a, b, c, d, @e) = 1;");
        Checks.fault(6, "f(a, b, c, d, @e, f) = 1;");
        Checks.fault(6, "f(a, b, c, d, @e");
        Checks.fault(3, "f(a, b, c, d, @a) = 1;");
        Checks.fault(3, "f(a, b, c, d, @d) = 1;");
        Checks.fault(2, "f(a, b, c, d, @1) = 1;");
        Checks.fault(2, "f(a, b, c, d, @) = 1;");
        Checks.fault(1, "f(a, b, c, d, @$) = 1;");
        Checks.fault(2, "f(a, b, c, d,@");
        Checks.fault(6, "f(a, b, c, d) = b; g(a, b, c, d, @e) = 1;");
    }

    private static String lets(int count) {
        return "let y = 1 in ".repeat(count);
    }

    /** PARAMS and lets are counted together, in each FUNCTION anew, and lets beside one another, too. */
    private static void mostNames() {
        String[] some = {"", "a", "a, b", "a, b, c", "a, b, c, d"};
        for (int params = 0; params < some.length; params++) {
            String head = "f(" + some[params] + ") = ";
            Checks.whole(1, head + lets(15 - params) + "1;");
            Specialiser x = Checks.whole(1, head + lets(16 - params) + "y;");
            int count = 16 - params;
            Checks.gives("lets", count, () -> x.function(0, 2));
            Checks.fault(6, head + lets(16 - params) + "let @y = 1 in y;");
            Checks.fault(6, head + lets(16 - params) + "let @z");
            Checks.fault(2, head + lets(16 - params) + "let @1 = 1 in y;");
            Checks.fault(1, head + lets(16 - params) + "let @$ = 1 in y;");
            Checks.fault(2, head + lets(16 - params) + "let@");
        }
        Checks.whole(1, "f(a) = (" + lets(8) + "y) + (" + lets(7) + "y);");
        Checks.fault(6, "f(a) = (" + lets(8) + "y) + (" + lets(7) + "let @y = 1 in y);");
        Checks.fault(6, "f(a) = let y = " + lets(14) + "y in let @y = 1 in y;");
        Checks.whole(2, "f(a) = " + lets(15) + "y; g(a) = " + lets(15) + "y;");
        Checks.fault(6, "f(a) = b; g(a) = " + lets(15) + "let @y = 1 in y;");
    }

    // ---- expressions within others

    /** Each place where the grammar has an E within an E; @ is where the inner one stands. */
    private static final String[] PLACES = {
        "(@)", "f(@, 1)", "f(1, @)", "let y = @ in 1", "let y = 1 in @", "if @ then 1 else 1", "if 1 then @ else 1",
        "if 1 then 1 else @", "1 + (@)", "1 == (@)", "1*(@) + 1 < 1", "(@)*1", "1 - f(1, @)",
    };

    private static String within(int others, String inner) {
        return "(".repeat(others) + inner + ")".repeat(others);
    }

    private static void expressionsWithinOthers() {
        for (int others = 21; others <= 24; others++) {
            String text = "f(a, b) = " + within(others, others == 24 ? "@1" : "1") + ";";
            wholeOrFault(others, text);
        }
        for (String place : PLACES) {
            for (int others = 21; others <= 24; others++) {
                // In brackets, so that the E's beside it are not as deep as it is.
                String inner = place.replace("@", others == 24 ? "(@a)" : "(a)");
                wholeOrFault(others, "f(a, b) = " + within(others - 2, inner) + ";");
            }
        }
        Checks.whole(1, "f(a) = " + "f(".repeat(23) + "a" + ")".repeat(23) + ";");
        Checks.fault(6, "f(a) = " + "f(".repeat(24) + "@a" + ")".repeat(24) + ";");
        Checks.whole(1, "f() = " + "if 1 then 2 else ".repeat(23) + "3;");
        Checks.fault(6, "f() = " + "if 1 then 2 else ".repeat(23) + "if @1 then 2 else 3;");
        Checks.whole(1, "f() = " + within(8, lets(15) + "y") + ";");
        Checks.fault(6, "f() = " + "(".repeat(9) + lets(14) + "let y = @1 in y;");
        Checks.whole(1, "f(a) = " + "1 < 2 + 3*f(".repeat(23) + "1 == 2 - 3*4" + ")".repeat(23) + ";");
        Checks.whole(1, "f() = " + within(23, "f()") + ";");
    }

    private static void wholeOrFault(int others, String text) {
        if (others < 24) {
            Checks.whole(1, text);
        } else {
            Checks.fault(6, text);
        }
    }

    /** Of an E too deep the first TOKEN alone counts, and that one must be able to stand there. */
    private static void firstTokenOfOneTooDeep() {
        String head = "f() = " + "(".repeat(24);
        String[] first = {"1", "-1", "-", "- $", "a", "a(", "(", "((", "let", "let 1", "if", "if $", "f()"};
        for (String begin : first) {
            Checks.fault(6, head + "@" + begin);
        }
        String[] others = {")", "then", "else", "in", "=", "==", "<", "+", "*", ",", ";", ""};
        for (String begin : others) {
            Checks.fault(2, head + "@" + begin);
        }
        Checks.fault(1, head + "@$");
        Checks.fault(1, head + "@2147483648");
        Checks.fault(6, "f() = b + " + "(".repeat(24) + "@1");
    }

    // ---- what is empty, and what is asked beyond an end

    private static void textsThatAreEmpty() {
        Checks.fault(2, "@");
        Checks.fault(2, " @");
        Checks.fault(2, "\n@");
        Checks.fault(2, "  \n @");
        Specialiser x = new Specialiser();
        Checks.gives("read of a new object's tape", -2, () -> x.read());
        Checks.gives("place", 0, () -> x.place());
        Specialiser y = Checks.having("f() = 1;");
        Checks.gives("the tape is empty behind a read", -2, () -> y.read());
        Checks.gives("place", 0, () -> y.place());
        Checks.gives("the program stays", 1, () -> y.function(0, 1));
    }

    private static void functionAtItsEnds() {
        Specialiser none = new Specialiser();
        int[] far = {Integer.MIN_VALUE, -1, 0, 1, Integer.MAX_VALUE};
        for (int f : far) {
            Checks.index("function(" + f + ", 0) without a program", () -> none.function(f, 0));
        }
        Specialiser x = Checks.whole(48, functions(48));
        for (int what = 0; what < 3; what++) {
            int w = what;
            int due = w == 1 ? 1 : 0;
            Checks.gives("function(0, " + w + ")", due, () -> x.function(0, w));
            Checks.gives("function(47, " + w + ")", due, () -> x.function(47, w));
            Checks.index("function(48, " + w + ")", () -> x.function(48, w));
            Checks.index("function(-1, " + w + ")", () -> x.function(-1, w));
        }
        int[] whats = {Integer.MIN_VALUE, -1, 3, Integer.MAX_VALUE};
        for (int what : whats) {
            Checks.index("function(0, " + what + ")", () -> x.function(0, what));
            Checks.index("function(48, " + what + ")", () -> x.function(48, what));
        }
    }

    private static void placeAtItsEnds() {
        Specialiser x = new Specialiser();
        Checks.gives("place before a read", Specialiser.NONE, () -> x.place());
        Checks.tape(x, "f() = 1;");
        Checks.gives("place with a tape and no read", Specialiser.NONE, () -> x.place());
        Checks.tape(x, "$");
        Checks.gives("read", -1, () -> x.read());
        Checks.gives("place", 8, () -> x.place());
        Checks.gives("place asked again", 8, () -> x.place());
        Checks.tape(x, "$");
        Checks.gives("place till the next read", 8, () -> x.place());
        Checks.gives("read", -1, () -> x.read());
        Checks.gives("the first byte's place", 0, () -> x.place());
        Checks.tape(x, "f() = 1;");
        Checks.gives("read", 1, () -> x.read());
        Checks.gives("no place", Specialiser.NONE, () -> x.place());
    }
}
