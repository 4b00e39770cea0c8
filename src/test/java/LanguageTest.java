import java.io.IOException;
import java.lang.reflect.Array;
import java.lang.reflect.Constructor;
import java.lang.reflect.Field;
import java.lang.reflect.Method;
import java.lang.reflect.Modifier;
import java.nio.charset.StandardCharsets;
import java.nio.file.Files;
import java.nio.file.Path;
import java.util.ArrayList;
import java.util.Arrays;
import java.util.HashSet;
import java.util.IdentityHashMap;
import java.util.List;
import java.util.Map;
import java.util.Set;
import java.util.TreeSet;
import java.util.regex.Matcher;
import java.util.regex.Pattern;

/** The face of the document, and those rules of LANGUAGE.md that a program can look at. */
public final class LanguageTest {
    private static final String[] FACE = {
        "feed(int, int, int, int, int) IllegalStateException",
        "cut(int) IllegalArgumentException",
        "read()",
        "place()",
        "function(int, int) IndexOutOfBoundsException",
        "know(int, int) IndexOutOfBoundsException",
        "make(int) IllegalStateException, IndexOutOfBoundsException, UnsupportedOperationException",
        "version(int, int) IndexOutOfBoundsException",
        "told(int) IndexOutOfBoundsException",
        "print() IllegalStateException, UnsupportedOperationException",
        "out(int) IndexOutOfBoundsException",
        "back() IllegalStateException",
        "give(int) IllegalStateException",
        "run(boolean, int, int) IllegalStateException, IndexOutOfBoundsException, IllegalArgumentException",
        "ran(int) IndexOutOfBoundsException",
    };
    private static final String[] RULED_OUT = {
        "\\bimport\\b", "\\bpackage\\b", "->", "::", "\\bfinally\\b", "\\bsynchronized\\b", "\\bassert\\b",
        "\\w+Exact\\b", "getMessage", "\\bstatic \\{", "\\bprotected\\b", "\\bSystem\\.(?!arraycopy)", "\\bThread\\b",
        "\\bequals\\(", "\\bhashCode\\b", "\\btoString\\b", "\"\" \\+", "\\+ \"\"",
        "catch \\((ArrayIndex|NullPointer|ClassCast|NegativeArray|ArrayStore|Exception|Throwable|RuntimeException)",
    };

    /** All of rule 4 that the class uses; what is not listed there, Integer.MAX_VALUE for one, is ruled out. */
    private static final Set<String> LIBRARY = Set.of("Integer.bitCount", "Math.max");
    private static final Set<String> THROWN = Set.of("IllegalStateException", "IllegalArgumentException",
            "IndexOutOfBoundsException", "ArithmeticException", "UnsupportedOperationException",
            "NoSuchElementException", "RuntimeException");

    public static void main(String[] args) throws IOException, IllegalAccessException {
        face();
        privateNames();
        classes();
        fieldTypes();
        source();
        room();
        Checks.end();
    }

    private static void face() {
        Class<Specialiser> c = Specialiser.class;
        Checks.same("public and final", c.getModifiers(), Modifier.PUBLIC | Modifier.FINAL);
        Set<String> methods = new TreeSet<>();
        for (Method m : c.getDeclaredMethods()) {
            if (!Modifier.isPrivate(m.getModifiers())) {
                Checks.same("modifiers of " + m, m.getModifiers(), Modifier.PUBLIC);
                Checks.same("what " + m + " gives", m.getReturnType(), int.class);
                methods.add(shown(m));
            }
        }
        Checks.same("methods", methods, new TreeSet<>(Arrays.asList(FACE)));
        List<String> fields = new ArrayList<>();
        for (Field f : c.getDeclaredFields()) {
            if (!Modifier.isPrivate(f.getModifiers())) {
                fields.add(f.toString());
            }
        }
        Checks.same("fields", fields, List.of("public static final int Specialiser.NONE"));
        Constructor<?>[] constructors = c.getDeclaredConstructors();
        Checks.same("constructors", Arrays.toString(constructors), "[public Specialiser()]");
    }

    private static String shown(Method m) {
        String types = names(m.getParameterTypes());
        String thrown = names(m.getExceptionTypes());
        return m.getName() + "(" + types + ")" + (thrown.isEmpty() ? "" : " " + thrown);
    }

    private static String names(Class<?>[] classes) {
        List<String> names = new ArrayList<>();
        for (Class<?> c : classes) {
            names.add(c.getSimpleName());
        }
        return String.join(", ", names);
    }

    private static List<Class<?>> allClasses() {
        List<Class<?>> all = new ArrayList<>(List.of(Specialiser.class));
        all.addAll(Arrays.asList(Specialiser.class.getDeclaredClasses()));
        return all;
    }

    private static void privateNames() {
        Set<String> names = new TreeSet<>();
        for (String method : FACE) {
            names.add(method.substring(0, method.indexOf('(')));
        }
        for (Class<?> c : allClasses()) {
            for (Method m : c.getDeclaredMethods()) {
                boolean ofTheFace = c == Specialiser.class && Modifier.isPublic(m.getModifiers());
                Checks.same(m + " bears a public name", !ofTheFace && names.contains(m.getName()), false);
                Checks.same(m + " has more than seven parameters", m.getParameterCount() > 7, false);
            }
        }
    }

    private static void classes() {
        Checks.same("more than twelve classes", allClasses().size() > 12, false);
        for (Class<?> c : allClasses()) {
            int fields = 0;
            for (Field f : c.getDeclaredFields()) {
                boolean isStatic = Modifier.isStatic(f.getModifiers());
                fields += isStatic ? 0 : 1;
                Checks.same(f + " is static and not final", isStatic && !Modifier.isFinal(f.getModifiers()), false);
            }
            Checks.same(c + " has more than twenty fields", fields > 20, false);
            boolean inside = c != Specialiser.class;
            Checks.same(c + " is not static", inside && !Modifier.isStatic(c.getModifiers()), false);
            Checks.same(c + " can be seen outside", inside && !Modifier.isPrivate(c.getModifiers()), false);
        }
    }

    /** Rules 3 and 5: numbers, arrays of them and own classes; constants of int and long alone. */
    private static void fieldTypes() {
        Set<Class<?>> types = new HashSet<>(allClasses());
        types.addAll(List.of(int.class, long.class, boolean.class, int[].class, long[].class));
        for (Class<?> c : allClasses()) {
            for (Field f : c.getDeclaredFields()) {
                boolean constant = f.getType() == int.class || f.getType() == long.class;
                boolean may = Modifier.isStatic(f.getModifiers()) ? constant : types.contains(f.getType());
                Checks.same(f + " is of a type that may be", may, true);
            }
        }
    }

    private static void source() throws IOException {
        Path path = Path.of("src/main/java/Specialiser.java");
        String text = Files.readString(path, StandardCharsets.ISO_8859_1);
        String code = text.replaceAll("(?s)/\\*.*?\\*/", "").replaceAll("//[^\n]*", "").replaceAll("\"[^\"\n]*\"", "\"\"");
        for (String pattern : RULED_OUT) {
            Checks.same("code has " + pattern, Pattern.compile(pattern).matcher(code).find(), false);
        }
        library(code);
        thrown(code);
        methodLengths(code.split("\n"));
    }

    private static void library(String code) {
        Set<String> own = new TreeSet<>();
        for (Class<?> c : allClasses()) {
            own.add(c.getSimpleName());
        }
        Matcher use = Pattern.compile("\\b([A-Z]\\w*)\\.(\\w+)").matcher(code);
        while (use.find()) {
            boolean may = own.contains(use.group(1)) || LIBRARY.contains(use.group());
            Checks.same(use.group() + " is in the library that may be used", may, true);
        }
    }

    /** Rule 6: a written text alone; no try, so that nothing that the machine throws could be caught. */
    private static void thrown(String code) {
        Checks.same("code has a try", Pattern.compile("\\btry\\b").matcher(code).find(), false);
        Pattern form = Pattern.compile("throw new (\\w+)\\(\"\"\\);");
        Matcher one = Pattern.compile("\\bthrow\\b.*").matcher(code);
        while (one.find()) {
            Matcher whole = form.matcher(one.group());
            Checks.same(one.group() + " may be thrown", whole.matches() && THROWN.contains(whole.group(1)), true);
        }
    }

    private static void methodLengths(String[] lines) {
        Pattern first = Pattern.compile("( {4}| {8})(?!if|for|while|switch|return|throw|\\}|//)\\S.*\\(.*[{)]");
        int methods = 0;
        int begun = 0;
        String last = "";
        for (int i = 0; i < lines.length; i++) {
            Matcher matcher = first.matcher(lines[i]);
            if (last.isEmpty() && matcher.matches()) {
                begun = i;
                last = matcher.group(1) + "}";
                methods++;
            } else if (!last.isEmpty() && lines[i].equals(last)) {
                Checks.same("lines of " + lines[begun] + " are more than 60", i - begun > 60, false);
                last = "";
            }
        }
        Checks.same("methods seen are more than 100: " + methods, methods > 100, true);
    }

    /** What one object holds, and that calls add nothing to it. */
    private static void room() throws IllegalAccessException {
        Specialiser x = new Specialiser();
        long before = cells(x);
        Checks.same("a new object has more than 120000 fields and elements: " + before, before > 120000, false);
        Checks.tape(x, "f(a, b) = if a then f(a - 1, b) + b else 1; g(a) = f(500, a) + f(5, a);");
        x.read();
        x.make(1);
        x.print();
        x.give(3);
        x.run(true, 0, 20000);
        x.back();
        x.read();
        Checks.same("it has as many behind its calls", cells(x), before);
    }

    private static long cells(Object root) throws IllegalAccessException {
        Map<Object, Boolean> seen = new IdentityHashMap<>();
        List<Object> todo = new ArrayList<>(List.of(root));
        long cells = 0;
        while (!todo.isEmpty()) {
            Object one = todo.remove(todo.size() - 1);
            if (seen.put(one, true) != null) {
                continue;
            }
            if (one.getClass().isArray()) {
                cells += Array.getLength(one);
                continue;
            }
            for (Field f : one.getClass().getDeclaredFields()) {
                if (!Modifier.isStatic(f.getModifiers())) {
                    cells++;
                    f.setAccessible(true);
                    if (!f.getType().isPrimitive()) {
                        todo.add(f.get(one));
                    }
                }
            }
        }
        return cells;
    }
}
