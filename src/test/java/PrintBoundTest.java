import java.lang.reflect.Field;
import java.lang.reflect.Method;
import java.util.Arrays;

/**
 * Promise 11: "UnsupportedOperation: more than 40000 (THE OUT stays)". No text comes to that bound, for a thousand
 * EXPRESSIONS print to fewer than 20000 bytes; so this test puts a longer REST into the object by its private parts,
 * in which the same EXPRESSION stands at many places.
 */
public final class PrintBoundTest {
    private static final int MOST_BYTES = 40000;
    private static final int PLUS = constant("PLUS");
    private static final int NUMBER = constant("NUMBER");

    private final Specialiser x;
    private final Object bodies;
    private final Object trees;

    private PrintBoundTest(String text) {
        x = Checks.having(text);
        x.make(0);
        bodies = part(part(x, "versions"), "bodies");
        trees = part(bodies, "trees");
    }

    public static void main(String[] args) {
        atTheBound();
        outStays();
        longestOfTexts();
        Checks.end();
    }

    private static int constant(String name) {
        try {
            Field field = Specialiser.class.getDeclaredField(name);
            field.setAccessible(true);
            return field.getInt(null);
        } catch (ReflectiveOperationException e) {
            throw new IllegalStateException(e);
        }
    }

    private static Object part(Object of, String name) {
        try {
            Field field = of.getClass().getDeclaredField(name);
            field.setAccessible(true);
            return field.get(of);
        } catch (ReflectiveOperationException e) {
            throw new IllegalStateException(e);
        }
    }

    private static int call(Object of, String name, Integer... numbers) {
        try {
            Class<?>[] types = new Class<?>[numbers.length];
            Arrays.fill(types, int.class);
            Method method = of.getClass().getDeclaredMethod(name, types);
            method.setAccessible(true);
            Object answer = method.invoke(of, (Object[]) numbers);
            return answer == null ? 0 : (Integer) answer;
        } catch (ReflectiveOperationException e) {
            throw new IllegalStateException(e);
        }
    }

    /** Gives VERSION 0, which has no PARAMS, a REST with which it prints to so many bytes. */
    private void plant(int bytes) {
        call(bodies, "setRoot", 0, expression(bytes - "v0() = ;\n".length()));
    }

    /** Both sides of a sum may be the same one: 1, 7, 19, .. bytes; the greatest that fits goes to the left. */
    private int expression(int bytes) {
        if (bytes <= 6) {
            return call(trees, "open", NUMBER, Integer.parseInt("1".repeat(bytes)));
        }
        int left = call(trees, "open", NUMBER, 1);
        int length = 1;
        while (2 * length + 5 + 5 + 1 <= bytes) {
            left = call(trees, "join", PLUS, left, left);
            length = 2 * length + 5;
        }
        return call(trees, "join", PLUS, left, expression(bytes - length - 5));
    }

    private static PrintBoundTest planted(int bytes) {
        PrintBoundTest test = new PrintBoundTest("f() = 7;");
        Checks.gives("print before", 10, () -> test.x.print());
        test.plant(bytes);
        return test;
    }

    private static void atTheBound() {
        int[] fit = {17, 8001, MOST_BYTES - 1, MOST_BYTES};
        for (int bytes : fit) {
            Specialiser x = planted(bytes).x;
            Checks.gives("print of " + bytes, bytes, () -> x.print());
            Checks.gives("its first byte", 'v', () -> x.out(0));
            Checks.gives("the one ahead of the last", ';', () -> x.out(bytes - 2));
            Checks.gives("the last", '\n', () -> x.out(bytes - 1));
            Checks.index("none behind it", () -> x.out(bytes));
        }
        int[] tooMany = {MOST_BYTES + 1, MOST_BYTES + 2, 2 * MOST_BYTES};
        for (int bytes : tooMany) {
            Specialiser x = planted(bytes).x;
            Checks.unsupported("print of " + bytes, () -> x.print());
            for (int i = 0; i < 10; i++) {
                int at = i;
                Checks.gives("out stays", "v0() = 7;\n".charAt(at), () -> x.out(at));
            }
            Checks.index("and is not longer", () -> x.out(10));
            Checks.gives("back of it", 10, () -> x.back());
        }
    }

    private static void outStays() {
        PrintBoundTest test = planted(MOST_BYTES);
        Specialiser x = test.x;
        Checks.gives("print of the most", MOST_BYTES, () -> x.print());
        test.plant(MOST_BYTES + 1);
        Checks.unsupported("print of one more", () -> x.print());
        Checks.gives("the last byte stays", '\n', () -> x.out(MOST_BYTES - 1));
        Checks.index("none behind it", () -> x.out(MOST_BYTES));
        Checks.state("back of the most", () -> x.back());
        test.plant(20);
        Checks.gives("print of few", 20, () -> x.print());
        Checks.index("out is that long", () -> x.out(20));
        Checks.gives("back of few", 20, () -> x.back());
    }

    /** What texts come to: nearly 1000 EXPRESSIONS, and no kind of them prints to more bytes than these two. */
    private static void longestOfTexts() {
        Specialiser x = Checks.having("f(n, m, p) = if n == 14 then p else " + "if ".repeat(20) + "p"
                + " then m else m".repeat(19) + " then m else f(n + 1, m, p);");
        x.know(0, 0);
        x.know(1, Integer.MIN_VALUE);
        Checks.gives("make", 15, () -> x.make(0));
        Checks.gives("gone through", 14 * 70 + 5, () -> x.told(4));
        int bytes = x.print();
        Checks.same("it prints to fewer than 20000: " + bytes, bytes > 14000 && bytes < 20000, true);
    }
}
