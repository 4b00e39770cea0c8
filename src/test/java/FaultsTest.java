import java.util.List;

/** Promises 4 and 5: texts that are read, and FAULTS 1 to 5 where they are due; @ marks the FAULT's place in a text. */
public final class FaultsTest {
    public static void main(String[] args) {
        tokensThatAreNone();
        tokensThatCannotStandThere();
        everyTokenEverywhere();
        textsThatEndTooEarly();
        namesToldAlready();
        namesNotThere();
        wrongArguments();
        wholeTexts();
        whatAFaultLeaves();
        Checks.end();
    }

    private static void tokensThatAreNone() {
        Checks.fault(1, "@$");
        Checks.fault(1, "@F() = 1;");
        Checks.fault(1, "@abcdefghi() = 1;");
        Checks.fault(1, "@1a() = 1;");
        Checks.fault(1, "f() = @12ab;");
        Checks.fault(1, "f() = @1if;");
        Checks.fault(1, "f() = @2147483648;");
        Checks.fault(1, "f() = -@2147483648;");
        Checks.fault(1, "f() = @9999999999;");
        Checks.fault(1, "f() = @00000000001;");
        Checks.fault(1, "f() = @18446744073709551617;");
        Checks.fault(1, "f() = @340282366920938463463374607431768211457;");
        Checks.fault(1, "f() = 1; @#");
        Checks.fault(1, "f()@\t= 1;");
        Checks.fault(1, "f()@\r= 1;");
        Checks.fault(1, "f()@\0= 1;");
        Checks.fault(1, "f()@\u00ff= 1;");
        Checks.fault(1, "f()@\u00a0= 1;");
        Checks.fault(1, "f() = 1 @> 2;");
        Checks.fault(1, "f() = 1 @/ 2;");
        Checks.fault(1, "f() = a@{;");
        Checks.fault(1, "f() = a@`;");
        Checks.fault(1, "f() = 1@:;");
        Checks.fault(1, "f() = 1 @! 2;");
        Checks.fault(1, "f() = b; g() = @?");
        Checks.fault(1, "f() = b; g@_() = 1;");
    }

    private static void tokensThatCannotStandThere() {
        Checks.fault(2, "@1");
        Checks.fault(2, "@let() = 1;");
        Checks.fault(2, "@(");
        Checks.fault(2, "f @= 1;");
        Checks.fault(2, "f(@1) = 1;");
        Checks.fault(2, "f(a @b) = 1;");
        Checks.fault(2, "f(a, @) = 1;");
        Checks.fault(2, "f(@, a) = 1;");
        Checks.fault(2, "f(@if) = 1;");
        Checks.fault(2, "f() @== 1;");
        Checks.fault(2, "f() = @= 1;");
        Checks.fault(2, "f() = 1 ==@= 1;");
        Checks.fault(2, "f() = @;");
        Checks.fault(2, "f() = 1 @1;");
        Checks.fault(2, "f(a) = a @a;");
        Checks.fault(2, "f() = 1;@;");
        Checks.fault(2, "f() = 1; @1");
        Checks.fault(2, "f() = -@-1;");
        Checks.fault(2, "f(a) = -@a;");
        Checks.fault(2, "f() = -@(1);");
        Checks.fault(2, "f() = 1 < 2 @< 3;");
        Checks.fault(2, "f() = 1 == 2 @< 3;");
        Checks.fault(2, "f() = 1 < 2 @== 3;");
        Checks.fault(2, "f() = 1 + 2 @+ 3;");
        Checks.fault(2, "f() = 1 - 2 @+ 3;");
        Checks.fault(2, "f() = 1*2@*3;");
        Checks.fault(2, "f() = 1 + @+ 2;");
        Checks.fault(2, "f() = 1 + @if 1 then 2 else 3;");
        Checks.fault(2, "f() = 1*@let a = 1 in a;");
        Checks.fault(2, "f() = if 1 @else 2;");
        Checks.fault(2, "f() = if 1 then 2 @;");
        Checks.fault(2, "f() = if @then 2 else 3;");
        Checks.fault(2, "f() = if 1 then 2 else @;");
        Checks.fault(2, "f() = let @in = 1 in 2;");
        Checks.fault(2, "f() = let @1 = 1 in 2;");
        Checks.fault(2, "f() = let a @== 1 in 2;");
        Checks.fault(2, "f() = let a = 1 @;");
        Checks.fault(2, "f() = let a = 1 in @;");
        Checks.fault(2, "f() = (1@;");
        Checks.fault(2, "f() = (@);");
        Checks.fault(2, "f() = 1@);");
        Checks.fault(2, "f() = 1@, 2;");
        Checks.fault(2, "f(a) = f(@, a);");
        Checks.fault(2, "f(a) = f(a, @);");
        Checks.fault(2, "f(a) = f(a @a);");
        Checks.fault(2, "f(a) = f(a@;");
        Checks.fault(2, "f(a) = f(a)@(a);");
        Checks.fault(2, "f(a) = 1@(a);");
        Checks.fault(2, "f() = b; g() = @;");
    }

    private static final String[] TOKENS = {
        "if", "then", "else", "let", "in", "x", "7", "=", "==", "(", ")", ",", ";", "+", "-", "*", "<",
    };
    private static final String E = "let if - 7 x (";
    private static final String ATOM = "- 7 x (";
    private static final String SIGNS = "+ - * < == ";
    /** Each place of the grammar, as a text up to it, and the TOKENS that can stand there. */
    private static final String[][] PLACES = {
        {"", "x"}, {"f", "("}, {"f(", "x )"}, {"f(a", ", )"}, {"f(a,", "x"}, {"f(a, b", ", )"}, {"f()", "="},
        {"f() =", E}, {"f() = 1", SIGNS + ";"}, {"f() = 1;", "x"}, {"f() = 1; g", "("},
        {"f() = let", "x"}, {"f() = let a", "="}, {"f() = let a =", E}, {"f() = let a = 1", SIGNS + "in"},
        {"f() = let a = 1 in", E}, {"f() = let a = 1 in a", SIGNS + "( ;"},
        {"f() = if", E}, {"f() = if 1", SIGNS + "then"}, {"f() = if 1 then", E}, {"f() = if 1 then 1", SIGNS + "else"},
        {"f() = if 1 then 1 else", E}, {"f() = if 1 then 1 else 1", SIGNS + ";"},
        {"f() = -", "7"}, {"f() = -1", SIGNS + ";"}, {"f(a) = a", SIGNS + "( ;"},
        {"f() = f(", E + " )"}, {"f() = f(1", SIGNS + ", )"}, {"f() = f(1,", E}, {"f() = f(1, 1", SIGNS + ", )"},
        {"f() = f()", SIGNS + ";"}, {"f() = (", E}, {"f() = (1", SIGNS + ")"}, {"f() = (1)", SIGNS + ";"},
        {"f() = 1*", ATOM}, {"f() = 1*1", "+ - < == ;"}, {"f() = 1 +", ATOM}, {"f() = 1 + 1", "* < == ;"},
        {"f() = 1 -", ATOM}, {"f() = 1 - 1", "* < == ;"}, {"f() = 1*1 + 1", "* < == ;"}, {"f() = 1 + 1*1", "< == ;"},
        {"f() = 1 <", ATOM}, {"f() = 1 < 1", "+ - * ;"}, {"f() = 1 ==", ATOM}, {"f() = 1 == 1", "+ - * ;"},
        {"f() = 1 < 1 + 1", "* ;"}, {"f() = 1 == 1*1", "+ - ;"}, {"f() = 1 == 1 - 1*1", ";"},
    };

    /** A TOKEN that can stand there ends the text: it is whole then, or ends too early behind it. */
    private static void everyTokenEverywhere() {
        for (String[] place : PLACES) {
            List<String> may = List.of(place[1].split(" "));
            for (String token : TOKENS) {
                String text = place[0] + " " + token;
                Specialiser x = new Specialiser();
                Checks.tape(x, text);
                int answer = x.read();
                boolean whole = token.equals(";") && may.contains(token);
                int due = !may.contains(token) ? place[0].length() + 1 : whole ? Specialiser.NONE : text.length();
                Checks.same("read of " + text, answer, whole ? 1 : -2);
                Checks.gives("place of " + text, due, () -> x.place());
            }
        }
    }

    private static void textsThatEndTooEarly() {
        Checks.fault(2, "@");
        Checks.fault(2, "  \n @");
        Checks.fault(2, "f@");
        Checks.fault(2, "f(@");
        Checks.fault(2, "f(a@");
        Checks.fault(2, "f(a,@");
        Checks.fault(2, "f()@");
        Checks.fault(2, "f() =@");
        Checks.fault(2, "f() = 1@");
        Checks.fault(2, "f() = 1  \n@");
        Checks.fault(2, "f() = -@");
        Checks.fault(2, "f() = 1 +@");
        Checks.fault(2, "f() = 1 ==@");
        Checks.fault(2, "f() = let a@");
        Checks.fault(2, "f() = if 1 then 2@");
        Checks.fault(2, "f() = f(@");
        Checks.fault(2, "f() = 1; g@");
        Checks.fault(2, "f(a) = b@");
    }

    private static void namesToldAlready() {
        Checks.fault(3, "f() = 1; @f() = 2;");
        Checks.fault(3, "f() = 1; g() = 1; @f(a) = $;");
        Checks.fault(3, "f(a, @a) = 1;");
        Checks.fault(3, "f(a, b, c, @a) = 1;");
        Checks.fault(3, "f(a, b, c, d, @a) = 1;");
        Checks.fault(3, "f() = b; @f() = 1;");
        Checks.fault(3, "f(a) = f(); g(b, @b) = 1;");
        Checks.whole(1, "f(f) = f + f(f);");
        Checks.whole(2, "f(a, b) = 1; g(b, a) = 1;");
        Checks.whole(1, "f(a) = let a = 1 in let a = 2 in let f = 3 in a;");
        Checks.whole(2, "f(g) = g; g(f) = f;");
    }

    private static void namesNotThere() {
        Checks.fault(4, "f(a) = @b;");
        Checks.fault(4, "f(a) = a; g() = @a;");
        Checks.fault(4, "f(a) = @f;");
        Checks.fault(4, "f(a) = @a(1);");
        Checks.fault(4, "f(a) = @g(a);");
        Checks.fault(4, "f(a) = @g(b);");
        Checks.fault(4, "f(a) = f(@b);");
        Checks.fault(4, "f(a) = f(f(@g(b)));");
        Checks.fault(4, "f(a) = let x = @x in x;");
        Checks.fault(4, "f(a) = (let x = 1 in x) + @x;");
        Checks.fault(4, "f(a) = let x = (let y = 1 in y) in @y;");
        Checks.fault(4, "f(a) = if @b then c else d;");
        Checks.fault(4, "f(a) = @b + f();");
        Checks.fault(4, "f(a) = @b; g() = f();");
        Checks.fault(4, "f(a) = a + @aa;");
        Checks.fault(4, "f(ab) = @a;");
        Checks.fault(4, "f(a) = @b; g() = c();");
        Checks.fault(4, "f(a) = @h(1); g() = b;");
    }

    private static void wrongArguments() {
        Checks.fault(5, "f(a) = @f();");
        Checks.fault(5, "f(a) = @f(a, 1);");
        Checks.fault(5, "f() = @f(1);");
        Checks.fault(5, "f(a) = @f(b, c);");
        Checks.fault(5, "f(a) = @f() + b;");
        Checks.fault(5, "f(a) = @f(1, 2, 3, 4, 5, 6, g(b));");
        Checks.fault(5, "f(a) = a; g() = @f(h(1, 2), b);");
        Checks.fault(5, "f(a, b) = f(a, @f(a));");
        Checks.fault(5, "f() = g(); g() = @f(1);");
        Checks.fault(5, "f() = @g(); g(a) = b;");
        Checks.fault(5, "f(a, b, c, d) = @f(a, b, c, d, a);");
    }

    private static void wholeTexts() {
        Checks.whole(1, "f()=1;");
        Checks.whole(1, "  \n f \n ( ) = \n 1 ; \n ");
        Checks.whole(1, "f()=if 1 then-2 else 3;");
        Checks.whole(1, "f(a)=if(a)then(a)else(a);");
        Checks.whole(1, "abcdefgh(a1234567) = a1234567;");
        Checks.whole(1, "f(iff, lets) = iff + lets;");
        Checks.whole(1, "f(thenn, i) = thenn*i;");
        Checks.whole(1, "f() = 2147483647 + 0000000001;");
        Checks.whole(1, "f() = - 2147483647;");
        Checks.whole(1, "f() = 1--1;");
        Checks.whole(1, "f(a) = a==-1;");
        Checks.whole(1, "f() = (if 1 then 2 else 3) + (let a = 1 in a);");
        Checks.whole(1, "f(a) = let b = let c = a in c in if b then let d = b in d else a;");
        Checks.whole(2, "f() = g(1, 2); g(a, b) = f();");
    }

    private static void whatAFaultLeaves() {
        Specialiser x = Checks.having("f(a) = a + 1; g() = 2;");
        x.know(1, 5);
        x.make(0);
        x.print();
        x.give(7);
        Checks.tape(x, "h() = ;");
        Checks.gives("read with a fault", -2, () -> x.read());
        Checks.gives("place", 6, () -> x.place());
        Checks.gives("function there before", 1, () -> x.function(0, 0));
        Checks.gives("version there before", 3, () -> x.version(0, 3));
        Checks.gives("given before", 1, () -> x.told(6));
        Checks.gives("out there before", 'v', () -> x.out(0));
        Checks.gives("run of what was made before", 1, () -> x.run(true, 0, 10));
        Checks.gives("what it gave", 8, () -> x.ran(0));
        Checks.tape(x, "h() = y;");
        Checks.gives("read with another fault", -4, () -> x.read());
        Checks.gives("read of an empty tape", -2, () -> x.read());
        Checks.gives("place in an empty tape", 0, () -> x.place());
        Checks.tape(x, "h() = 3;");
        Checks.gives("read without one", 1, () -> x.read());
        Checks.gives("place", Specialiser.NONE, () -> x.place());
        Checks.index("function of the program before", () -> x.function(1, 0));
        Checks.index("version of the program before", () -> x.version(0, 0));
        Checks.state("run of a version of the program before", () -> x.run(true, 0, 10));
        Checks.state("print of the versions before", () -> x.print());
    }
}
