import java.io.IOException;
import java.lang.reflect.InvocationTargetException;
import java.lang.reflect.Method;
import java.lang.reflect.Modifier;
import java.nio.file.Files;
import java.nio.file.Path;
import java.util.List;
import java.util.Set;
import java.util.TreeSet;
import java.util.regex.Matcher;
import java.util.regex.Pattern;

/**
 * What README.md shows as the use of the class: its blocks of Java are gone through call by call, each held against the
 * answer behind it, and its blocks of text against THE OUT.
 */
public final class ReadmeTest {
    private static final String MADE = "Specialiser x = new Specialiser();";
    private static final Pattern CALL = Pattern.compile("x\\.(\\w+)\\((.*)\\); +// (-?\\d+|throws \\w+): (\\S.*)");
    private static final int MOST_CALLS = 512;

    private Specialiser x = null;
    private int calls = 0;
    private final Set<String> shown = new TreeSet<>();

    public static void main(String[] args) throws IOException, IllegalAccessException {
        ReadmeTest test = new ReadmeTest();
        test.goThrough(Files.readAllLines(Path.of("README.md")));
        Set<String> face = new TreeSet<>();
        for (Method m : Specialiser.class.getDeclaredMethods()) {
            if (Modifier.isPublic(m.getModifiers())) {
                face.add(m.getName());
            }
        }
        Checks.same("the calls that README.md shows", test.shown, face);
        Checks.same("more calls of one object than are promised", test.calls > MOST_CALLS, false);
        Checks.end();
    }

    private void goThrough(List<String> lines) throws IllegalAccessException {
        String block = "";
        StringBuilder text = new StringBuilder();
        for (String line : lines) {
            if (line.startsWith("```")) {
                if (block.equals("text")) {
                    out(text.toString());
                }
                block = line.substring(3);
                text.setLength(0);
            } else if (block.equals("java")) {
                javaLine(line);
            } else {
                text.append(line).append('\n');
            }
        }
        Checks.same("the last block", block, "");
    }

    private void javaLine(String line) throws IllegalAccessException {
        Matcher call = CALL.matcher(line);
        if (line.equals(MADE)) {
            x = new Specialiser();
            calls = 0;
        } else if (call.matches()) {
            calls++;
            shown.add(call.group(1));
            Checks.same(line, answer(call.group(1), call.group(2)), call.group(3));
            if (call.group(1).equals("feed")) {
                Checks.same("bytes of " + line, bytes(call.group(2)).stripTrailing(), call.group(4));
            }
        } else {
            Checks.same(line, "no call with an answer", "a call with an answer");
        }
    }

    private String answer(String name, String arguments) throws IllegalAccessException {
        String[] parts = arguments.isEmpty() ? new String[0] : arguments.split(", ");
        Object[] values = new Object[parts.length];
        for (int i = 0; i < parts.length; i++) {
            boolean truth = parts[i].equals("true") || parts[i].equals("false");
            values[i] = truth ? (Object) Boolean.valueOf(parts[i]) : Integer.decode(parts[i]);
        }
        for (Method m : Specialiser.class.getMethods()) {
            if (m.getName().equals(name) && m.getParameterCount() == parts.length) {
                return answer(m, values);
            }
        }
        return "no such call";
    }

    private String answer(Method m, Object[] values) throws IllegalAccessException {
        try {
            return m.invoke(x, values).toString();
        } catch (InvocationTargetException e) {
            return "throws " + e.getCause().getClass().getSimpleName();
        }
    }

    private static String bytes(String arguments) {
        StringBuilder text = new StringBuilder();
        for (String part : arguments.split(", ")) {
            int four = Integer.decode(part);
            for (int shift = 24; shift >= 0; shift -= 8) {
                text.append((char) (four >>> shift & 255));
            }
        }
        return text.toString();
    }

    private void out(String due) {
        calls += due.length() + 1;
        for (int i = 0; i < due.length(); i++) {
            int at = i;
            Checks.gives("out(" + at + ") of " + due, due.charAt(at), () -> x.out(at));
        }
        Checks.index("out behind " + due, () -> x.out(due.length()));
    }
}
