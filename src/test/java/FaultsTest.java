/** Promises 4 and 5: texts that are read, and each FAULT where it is due; @ marks the FAULT's place in a text. */
public final class FaultsTest {
    private static final String E11 = "1*1+1*1<1*1";
    private static final String E15 = "1*1+1*1<1*1+1*1";

    public static void main(String[] args) {
        tokensThatAreNone();
        tokensThatCannotStandThere();
        textsThatEndTooEarly();
        namesToldAlready();
        namesNotThere();
        wrongArguments();
        tooManyFunctionsParamsAndNames();
        expressionsTooDeep();
        tooManyTokens();
        wholeTexts();
        whatAFaultLeaves();
        Checks.end();
    }

    private static void fault(int number, String marked) {
        int place = marked.indexOf('@');
        Specialiser x = new Specialiser();
        Checks.tape(x, marked.replace("@", ""));
        Checks.gives("read of " + marked, -number, () -> x.read());
        Checks.gives("place of " + marked, place, () -> x.place());
        Checks.gives("the tape behind " + marked, 0, () -> x.told(7));
        Checks.index("function behind " + marked, () -> x.function(0, 0));
    }

    private static void whole(int functions, String text) {
        Specialiser x = new Specialiser();
        Checks.tape(x, text);
        Checks.gives("read of " + text, functions, () -> x.read());
        Checks.gives("place of " + text, Specialiser.NONE, () -> x.place());
        Checks.gives("the tape behind " + text, 0, () -> x.told(7));
    }

    private static String times(String text, int n) {
        return text.repeat(n);
    }

    private static void tokensThatAreNone() {
        fault(1, "@$");
        fault(1, "@F() = 1;");
        fault(1, "@abcdefghi() = 1;");
        fault(1, "@1a() = 1;");
        fault(1, "f() = @12ab;");
        fault(1, "f() = @1if;");
        fault(1, "f() = @2147483648;");
        fault(1, "f() = -@2147483648;");
        fault(1, "f() = @9999999999;");
        fault(1, "f() = @00000000001;");
        fault(1, "f() = @18446744073709551617;");
        fault(1, "f() = @340282366920938463463374607431768211457;");
        fault(1, "f() = 1; @#");
        fault(1, "f()@\t= 1;");
        fault(1, "f()@\r= 1;");
        fault(1, "f()@\0= 1;");
        fault(1, "f()@\u00ff= 1;");
        fault(1, "f()@\u00a0= 1;");
        fault(1, "f() = 1 @> 2;");
        fault(1, "f() = 1 @/ 2;");
        fault(1, "f() = a@{;");
        fault(1, "f() = a@`;");
        fault(1, "f() = 1@:;");
        fault(1, "f() = 1 @! 2;");
        fault(1, "f() = b; g() = @?");
        fault(1, "f() = b; g@_() = 1;");
    }

    private static void tokensThatCannotStandThere() {
        fault(2, "@1");
        fault(2, "@let() = 1;");
        fault(2, "@(");
        fault(2, "f @= 1;");
        fault(2, "f(@1) = 1;");
        fault(2, "f(a @b) = 1;");
        fault(2, "f(a, @) = 1;");
        fault(2, "f(@, a) = 1;");
        fault(2, "f(@if) = 1;");
        fault(2, "f() @== 1;");
        fault(2, "f() = @= 1;");
        fault(2, "f() = 1 ==@= 1;");
        fault(2, "f() = @;");
        fault(2, "f() = 1 @1;");
        fault(2, "f(a) = a @a;");
        fault(2, "f() = 1;@;");
        fault(2, "f() = 1; @1");
        fault(2, "f() = -@-1;");
        fault(2, "f(a) = -@a;");
        fault(2, "f() = -@(1);");
        fault(2, "f() = 1 < 2 @< 3;");
        fault(2, "f() = 1 == 2 @< 3;");
        fault(2, "f() = 1 < 2 @== 3;");
        fault(2, "f() = 1 + 2 @+ 3;");
        fault(2, "f() = 1 - 2 @+ 3;");
        fault(2, "f() = 1*2@*3;");
        fault(2, "f() = 1 + @+ 2;");
        fault(2, "f() = 1 + @if 1 then 2 else 3;");
        fault(2, "f() = 1*@let a = 1 in a;");
        fault(2, "f() = if 1 @else 2;");
        fault(2, "f() = if 1 then 2 @;");
        fault(2, "f() = if @then 2 else 3;");
        fault(2, "f() = if 1 then 2 else @;");
        fault(2, "f() = let @in = 1 in 2;");
        fault(2, "f() = let @1 = 1 in 2;");
        fault(2, "f() = let a @== 1 in 2;");
        fault(2, "f() = let a = 1 @;");
        fault(2, "f() = let a = 1 in @;");
        fault(2, "f() = (1@;");
        fault(2, "f() = (@);");
        fault(2, "f() = 1@);");
        fault(2, "f() = 1@, 2;");
        fault(2, "f(a) = f(@, a);");
        fault(2, "f(a) = f(a, @);");
        fault(2, "f(a) = f(a @a);");
        fault(2, "f(a) = f(a@;");
        fault(2, "f(a) = f(a)@(a);");
        fault(2, "f(a) = 1@(a);");
        fault(2, "f() = b; g() = @;");
    }

    private static void textsThatEndTooEarly() {
        fault(2, "@");
        fault(2, "  \n @");
        fault(2, "f@");
        fault(2, "f(@");
        fault(2, "f(a@");
        fault(2, "f(a,@");
        fault(2, "f()@");
        fault(2, "f() =@");
        fault(2, "f() = 1@");
        fault(2, "f() = 1  \n@");
        fault(2, "f() = -@");
        fault(2, "f() = 1 +@");
        fault(2, "f() = 1 ==@");
        fault(2, "f() = let a@");
        fault(2, "f() = if 1 then 2@");
        fault(2, "f() = f(@");
        fault(2, "f() = 1; g@");
        fault(2, "f(a) = b@");
    }

    private static void namesToldAlready() {
        fault(3, "f() = 1; @f() = 2;");
        fault(3, "f() = 1; g() = 1; @f(a) = $;");
        fault(3, "f(a, @a) = 1;");
        fault(3, "f(a, b, c, @a) = 1;");
        fault(3, "f(a, b, c, d, @a) = 1;");
        fault(3, "f() = b; @f() = 1;");
        fault(3, "f(a) = f(); g(b, @b) = 1;");
        whole(1, "f(f) = f + f(f);");
        whole(2, "f(a, b) = 1; g(b, a) = 1;");
        whole(1, "f(a) = let a = 1 in let a = 2 in let f = 3 in a;");
        whole(2, "f(g) = g; g(f) = f;");
    }

    private static void namesNotThere() {
        fault(4, "f(a) = @b;");
        fault(4, "f(a) = a; g() = @a;");
        fault(4, "f(a) = @f;");
        fault(4, "f(a) = @a(1);");
        fault(4, "f(a) = @g(a);");
        fault(4, "f(a) = @g(b);");
        fault(4, "f(a) = f(@b);");
        fault(4, "f(a) = f(f(@g(b)));");
        fault(4, "f(a) = let x = @x in x;");
        fault(4, "f(a) = (let x = 1 in x) + @x;");
        fault(4, "f(a) = let x = (let y = 1 in y) in @y;");
        fault(4, "f(a) = if @b then c else d;");
        fault(4, "f(a) = @b + f();");
        fault(4, "f(a) = @b; g() = f();");
        fault(4, "f(a) = a + @aa;");
        fault(4, "f(ab) = @a;");
        fault(4, "f(a) = @b; g() = c();");
        fault(4, "f(a) = @h(1); g() = b;");
    }

    private static void wrongArguments() {
        fault(5, "f(a) = @f();");
        fault(5, "f(a) = @f(a, 1);");
        fault(5, "f() = @f(1);");
        fault(5, "f(a) = @f(b, c);");
        fault(5, "f(a) = @f() + b;");
        fault(5, "f(a) = @f(1, 2, 3, 4, 5, 6, g(b));");
        fault(5, "f(a) = a; g() = @f(h(1, 2), b);");
        fault(5, "f(a, b) = f(a, @f(a));");
        fault(5, "f() = g(); g() = @f(1);");
        fault(5, "f() = @g(); g(a) = b;");
        fault(5, "f(a, b, c, d) = @f(a, b, c, d, a);");
    }

    private static String functions(int count) {
        StringBuilder text = new StringBuilder();
        for (int f = 0; f < count; f++) {
            text.append("f").append(f).append("() = 1; ");
        }
        return text.toString();
    }

    private static String lets(int count) {
        StringBuilder text = new StringBuilder();
        for (int i = 0; i < count; i++) {
            text.append("let y = 1 in ");
        }
        return text.toString();
    }

    private static void tooManyFunctionsParamsAndNames() {
        whole(48, functions(48));
        fault(6, functions(48) + "@g() = 1;");
        fault(6, functions(48) + "@g $");
        fault(3, functions(48) + "@f7() = 1;");
        fault(2, functions(48) + "@7");
        fault(1, functions(48) + "@$");
        whole(1, "f(a, b, c, d) = 1;");
        fault(6, "f(a, b, c, d, @e) = 1;");
        fault(2, "f(a, b, c, d, @1) = 1;");
        whole(1, "f() = " + lets(16) + "y;");
        fault(6, "f() = " + lets(16) + "let @y = 1 in y;");
        fault(2, "f() = " + lets(16) + "let @1 = 1 in y;");
        whole(1, "f(a, b, c, d) = " + lets(12) + "y;");
        fault(6, "f(a, b, c, d) = " + lets(12) + "let @z = 1 in y;");
        fault(6, "f(a) = (" + lets(8) + "y) + (" + lets(7) + "let @y = 1 in y);");
        whole(2, "f(a) = " + lets(15) + "y; g(a) = " + lets(15) + "y;");
    }

    private static void expressionsTooDeep() {
        whole(1, "f() = " + times("(", 23) + "1" + times(")", 23) + ";");
        fault(6, "f() = " + times("(", 24) + "@1" + times(")", 24) + ";");
        fault(6, "f() = " + times("(", 24) + "@(" + times(")", 24) + ";");
        fault(6, "f() = " + times("(", 24) + "@-1;");
        fault(6, "f() = " + times("(", 24) + "@a;");
        fault(6, "f() = " + times("(", 24) + "@let;");
        fault(6, "f() = " + times("(", 24) + "@if;");
        fault(2, "f() = " + times("(", 24) + "@);");
        fault(2, "f() = " + times("(", 24) + "@then;");
        fault(2, "f() = " + times("(", 24) + "@");
        fault(1, "f() = " + times("(", 24) + "@$");
        whole(1, "f() = " + times("(", 23) + "f()" + times(")", 23) + ";");
        fault(6, "f() = " + times("(", 23) + "f(@1)" + times(")", 23) + ";");
        whole(1, "f(a) = " + times("f(", 23) + "a" + times(")", 23) + ";");
        fault(6, "f(a) = " + times("f(", 24) + "@a" + times(")", 24) + ";");
        whole(1, "f(a) = " + times("if 1 then 2 else ", 23) + "3;");
        fault(6, "f(a) = " + times("if 1 then 2 else ", 23) + "if @1 then 2 else 3;");
        whole(1, "f(a) = " + times("if ", 23) + "1" + times(" then 2 else 3", 23) + ";");
        fault(6, "f(a) = " + times("if ", 24) + "@1;");
        whole(1, "f(a) = " + times("if 1 then ", 23) + "2" + times(" else 3", 23) + ";");
        fault(6, "f(a) = " + times("(", 23) + "if @1;");
        fault(6, "f(a) = " + times("if 1 then ", 22) + "if 1 then (@2);");
        fault(6, "f(a) = " + times("if 1 then 2 else ", 22) + "if 1 then 2 else (@2);");
        whole(1, "f(a, b) = " + times("f(1, ", 23) + "b" + times(")", 23) + ";");
        fault(6, "f(a, b) = " + times("f(1, ", 22) + "f(1, (@b" + times(")", 24) + ";");
        fault(6, "f(a) = " + times("(", 9) + lets(14) + "let y = @1 in y;");
        whole(1, "f(a) = " + times("(", 8) + lets(15) + "y" + times(")", 8) + ";");
        whole(1, "f(a) = " + times("1 < 2 + 3*f(", 23) + "1 == 2 - 3*4" + times(")", 23) + ";");
    }

    /** Thirty FUNCTIONS of fifty TOKENS each; the last one's E could go on. */
    private static String fifteenHundred() {
        StringBuilder text = new StringBuilder();
        for (int f = 0; f < 30; f++) {
            text.append("f").append(f).append("() = if ").append(E15).append(" then ").append(E15);
            text.append(" else -").append(E11).append(";");
        }
        return text.toString();
    }

    private static void tooManyTokens() {
        String full = fifteenHundred();
        String open = full.substring(0, full.length() - 1);
        whole(30, full);
        whole(30, full + "  \n ");
        fault(6, full + "@g() = 1;");
        fault(3, full + "@f3() = 1;");
        fault(2, full + "@7");
        fault(1, full + "@$");
        fault(2, open + "+@");
        fault(6, open + "+@1;");
        fault(2, open + "+@;");
        fault(1, open + "+@$");
        fault(4, open.replace("f7() = if 1", "f7() = if @a") + ";");
    }

    private static void wholeTexts() {
        whole(1, "f()=1;");
        whole(1, "  \n f \n ( ) = \n 1 ; \n ");
        whole(1, "f()=if 1 then-2 else 3;");
        whole(1, "f(a)=if(a)then(a)else(a);");
        whole(1, "abcdefgh(a1234567) = a1234567;");
        whole(1, "f(iff, lets) = iff + lets;");
        whole(1, "f(thenn, i) = thenn*i;");
        whole(1, "f() = 2147483647 + 0000000001;");
        whole(1, "f() = - 2147483647;");
        whole(1, "f() = 1--1;");
        whole(1, "f(a) = a==-1;");
        whole(1, "f() = (if 1 then 2 else 3) + (let a = 1 in a);");
        whole(1, "f(a) = let b = let c = a in c in if b then let d = b in d else a;");
        whole(2, "f() = g(1, 2); g(a, b) = f();");
    }

    private static void whatAFaultLeaves() {
        Specialiser x = Checks.having("f(a) = a + 1; g() = 2;");
        x.know(1, 5);
        x.make(0);
        x.print();
        x.give(7);
        Checks.tape(x, "h() = ;");
        Checks.gives("read with a fault", -2, () -> x.read());
        Checks.gives("place", 6, () -> x.place());
        Checks.gives("function there before", 1, () -> x.function(0, 0));
        Checks.gives("version there before", 3, () -> x.version(0, 3));
        Checks.gives("given before", 1, () -> x.told(6));
        Checks.gives("out there before", 'v', () -> x.out(0));
        Checks.gives("run of what was made before", 1, () -> x.run(true, 0, 10));
        Checks.gives("what it gave", 8, () -> x.ran(0));
        Checks.tape(x, "h() = y;");
        Checks.gives("read with another fault", -4, () -> x.read());
        Checks.gives("read of an empty tape", -2, () -> x.read());
        Checks.gives("place in an empty tape", 0, () -> x.place());
        Checks.tape(x, "h() = 3;");
        Checks.gives("read without one", 1, () -> x.read());
        Checks.gives("place", Specialiser.NONE, () -> x.place());
        Checks.index("function of the program before", () -> x.function(1, 0));
        Checks.index("version of the program before", () -> x.version(0, 0));
        Checks.state("run of a version of the program before", () -> x.run(true, 0, 10));
        Checks.state("print of the versions before", () -> x.print());
    }
}
