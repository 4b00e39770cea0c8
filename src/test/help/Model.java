import java.util.ArrayList;
import java.util.HashMap;
import java.util.HashSet;
import java.util.LinkedHashMap;
import java.util.List;
import java.util.Map;
import java.util.Set;
import java.util.regex.Matcher;
import java.util.regex.Pattern;

/**
 * The document once more, written as near to its words as can be and by other means than the class: objects, maps,
 * recursion and exceptions. The random tests hold the class against it.
 */
final class Model {
    /** A FAULT, at a byte. */
    static final class Fault extends RuntimeException {
        private static final long serialVersionUID = 1;
        final int number;
        final int place;

        Fault(int number, int place) {
            this.number = number;
            this.place = place;
        }
    }

    /** The end of a run that is not done. */
    static final class Stop extends RuntimeException {
        private static final long serialVersionUID = 1;
        final int how;

        Stop(int how) {
            this.how = how;
        }
    }

    record Token(String text, String kind, int place) {
    }

    static final class Node {
        final String kind;
        int number;
        String name;
        int place;
        int target;
        final List<Node> parts = new ArrayList<>();

        Node(String kind) {
            this.kind = kind;
        }

        boolean isNumber() {
            return kind.equals("number");
        }

        int size() {
            int all = 1;
            for (Node part : parts) {
                all += part.size();
            }
            return all;
        }

        int lets() {
            int all = kind.equals("let") ? 1 : 0;
            for (Node part : parts) {
                all += part.lets();
            }
            return all;
        }
    }

    static final class Function {
        String name;
        final List<String> params = new ArrayList<>();
        int names;
        Node body;
    }

    static final class Version {
        int function;
        final Map<Integer, Integer> known = new HashMap<>();
        final List<String> left = new ArrayList<>();
        Node rest;
    }

    // ---- the state

    private final StringBuilder tape = new StringBuilder();
    private int place = -1;
    private List<Function> program = new ArrayList<>();
    private List<Version> versions = new ArrayList<>();
    private Map<Integer, Integer> known = new HashMap<>();
    private int[] told = new int[5];
    private String out = "";
    private final List<Integer> given = new ArrayList<>();
    private int[] ran = new int[3];

    int feed(int a, int b, int c, int d, int e) {
        if (tape.length() > 7980) {
            throw new IllegalStateException();
        }
        for (int word : new int[] {a, b, c, d, e}) {
            for (byte one : java.nio.ByteBuffer.allocate(4).putInt(word).array()) {
                tape.append((char) (one & 255));
            }
        }
        return tape.length();
    }

    int cut(int n) {
        if (n < 0 || n > tape.length()) {
            throw new IllegalArgumentException();
        }
        int gone = tape.length() - n;
        tape.setLength(n);
        return gone;
    }

    int read() {
        String text = tape.toString();
        tape.setLength(0);
        try {
            List<Function> now = new Parser(text).program();
            place = -1;
            program = now;
            versions = new ArrayList<>();
            return program.size();
        } catch (Fault fault) {
            place = fault.place;
            return -fault.number;
        }
    }

    int place() {
        return place;
    }

    int function(int f, int what) {
        if (f < 0 || f >= program.size() || what < 0 || what > 2) {
            throw new IndexOutOfBoundsException();
        }
        Function function = program.get(f);
        return what == 0 ? function.params.size() : what == 1 ? function.body.size() : function.body.lets();
    }

    // ---- texts

    static final class Parser {
        private static final Pattern SHAPE =
                Pattern.compile("[ \\n]*(?:(?<row>[a-z0-9]+)|(?<sign>==|[=(),;+*<-])|(?<other>[\\s\\S]))");
        private static final Set<String> WORDS = Set.of("if", "then", "else", "let", "in");
        private static final Set<String> STARTS = Set.of("let", "if", "-", "number", "name", "(");

        private final List<Token> tokens = new ArrayList<>();
        private final List<Function> functions = new ArrayList<>();
        private int at = 0;

        Parser(String text) {
            Matcher matcher = SHAPE.matcher(text);
            int from = 0;
            while (matcher.find(from)) {
                String kind = matcher.group("sign");
                String row = matcher.group("row");
                if (row != null) {
                    kind = rowKind(row);
                    tokens.add(new Token(row, kind, matcher.start("row")));
                } else if (kind != null) {
                    tokens.add(new Token(kind, kind, matcher.start("sign")));
                } else if (!matcher.group("other").matches("[ \\n]")) {
                    tokens.add(new Token("", "none", matcher.start("other")));
                }
                from = matcher.end();
            }
            tokens.add(new Token("", "end", text.length()));
        }

        private static String rowKind(String row) {
            if (WORDS.contains(row)) {
                return row;
            }
            if (row.matches("[a-z][a-z0-9]{0,7}")) {
                return "name";
            }
            boolean number = row.matches("[0-9]{1,10}") && Long.parseLong(row) <= 2147483647L;
            return number ? "number" : "none";
        }

        private Token token() {
            return tokens.get(at);
        }

        private boolean is(String kind) {
            return token().kind.equals(kind);
        }

        private Fault fault(int number) {
            return new Fault(number, token().place);
        }

        private Fault misplaced() {
            return fault(is("none") ? 1 : 2);
        }

        private Token next(String kind) {
            if (!is(kind)) {
                throw misplaced();
            }
            if (at == 1500) {
                throw fault(6);
            }
            return tokens.get(at++);
        }

        List<Function> program() {
            do {
                functions.add(oneFunction());
            } while (!is("end"));
            for (Function function : functions) {
                check(function.body, new ArrayList<>(function.params));
            }
            return functions;
        }

        private Function oneFunction() {
            Function function = new Function();
            if (is("name") && functions.stream().anyMatch(f -> f.name.equals(token().text))) {
                throw fault(3);
            }
            if (is("name") && functions.size() == 48) {
                throw fault(6);
            }
            function.name = next("name").text;
            next("(");
            if (!is(")")) {
                param(function);
                while (is(",")) {
                    next(",");
                    param(function);
                }
            }
            next(")");
            next("=");
            function.names = function.params.size();
            function.body = e(function, 0);
            next(";");
            return function;
        }

        private void param(Function function) {
            if (is("name") && function.params.contains(token().text)) {
                throw fault(3);
            }
            if (is("name") && function.params.size() == 4) {
                throw fault(6);
            }
            function.params.add(next("name").text);
        }

        private Node e(Function function, int others) {
            if (others == 24) {
                throw STARTS.contains(token().kind) ? fault(6) : misplaced();
            }
            if (is("let")) {
                Node let = new Node("let");
                next("let");
                if (is("name") && function.names == 16) {
                    throw fault(6);
                }
                let.name = next("name").text;
                function.names++;
                next("=");
                let.parts.add(e(function, others + 1));
                next("in");
                let.parts.add(e(function, others + 1));
                return let;
            }
            if (is("if")) {
                Node choice = new Node("if");
                for (String word : List.of("if", "then", "else")) {
                    next(word);
                    choice.parts.add(e(function, others + 1));
                }
                return choice;
            }
            return sides(function, others, 0);
        }

        private static final List<List<String>> SIGNS =
                List.of(List.of("<", "=="), List.of("+", "-"), List.of("*"));

        private Node sides(Function function, int others, int level) {
            if (level == 3) {
                return atom(function, others);
            }
            Node left = sides(function, others, level + 1);
            if (!SIGNS.get(level).contains(token().kind)) {
                return left;
            }
            Node sign = new Node(next(token().kind).kind);
            sign.parts.add(left);
            sign.parts.add(sides(function, others, level + 1));
            return sign;
        }

        private Node atom(Function function, int others) {
            if (is("-") || is("number")) {
                Node number = new Node("number");
                boolean below = is("-");
                if (below) {
                    next("-");
                }
                number.number = Integer.parseInt((below ? "-" : "") + (is("number") ? token().text : "0"));
                next("number");
                return number;
            }
            if (is("(")) {
                next("(");
                Node inner = e(function, others + 1);
                next(")");
                return inner;
            }
            Token name = next("name");
            Node node = new Node(is("(") ? "call" : "name");
            node.name = name.text;
            node.place = name.place;
            if (is("(")) {
                next("(");
                while (!is(")")) {
                    if (!node.parts.isEmpty()) {
                        next(",");
                    }
                    node.parts.add(e(function, others + 1));
                }
                next(")");
            }
            return node;
        }

        private void check(Node node, List<String> scope) {
            if (node.kind.equals("call")) {
                node.target = -1;
                for (int f = 0; f < functions.size(); f++) {
                    if (functions.get(f).name.equals(node.name)) {
                        node.target = f;
                    }
                }
                if (node.target < 0) {
                    throw new Fault(4, node.place);
                }
                if (functions.get(node.target).params.size() != node.parts.size()) {
                    throw new Fault(5, node.place);
                }
            }
            for (int i = 0; i < node.parts.size(); i++) {
                List<String> inner = new ArrayList<>(scope);
                if (node.kind.equals("let") && i == 1) {
                    inner.add(node.name);
                }
                check(node.parts.get(i), inner);
            }
            if (node.kind.equals("name") && !scope.contains(node.name)) {
                throw new Fault(4, node.place);
            }
        }
    }

    // ---- runs

    final class Run {
        final boolean made;
        final int limit;
        int steps = 0;
        int depth = 0;
        int deepest = 0;

        Run(boolean made, int limit) {
            this.made = made;
            this.limit = limit;
        }

        int of(int k, List<Integer> numbers) {
            Map<String, Integer> frame = new LinkedHashMap<>();
            List<String> params = made ? versions.get(k).left : program.get(k).params;
            for (int i = 0; i < params.size(); i++) {
                frame.put(params.get(i), numbers.get(i));
            }
            return work(made ? versions.get(k).rest : program.get(k).body, frame);
        }

        private int work(Node node, Map<String, Integer> frame) {
            if (steps == limit) {
                throw new Stop(2);
            }
            if (depth == 160) {
                throw new Stop(3);
            }
            steps++;
            depth++;
            deepest = Math.max(deepest, depth);
            int number = inner(node, frame);
            depth--;
            return number;
        }

        private int inner(Node node, Map<String, Integer> frame) {
            switch (node.kind) {
                case "number":
                    return node.number;
                case "name":
                    return frame.get(node.name);
                case "let":
                    Map<String, Integer> more = new HashMap<>(frame);
                    more.put(node.name, work(node.parts.get(0), frame));
                    return work(node.parts.get(1), more);
                case "if":
                    return work(node.parts.get(work(node.parts.get(0), frame) == 0 ? 2 : 1), frame);
                case "call":
                    List<Integer> numbers = new ArrayList<>();
                    for (Node part : node.parts) {
                        numbers.add(work(part, frame));
                    }
                    return of(node.target, numbers);
                default:
                    int left = work(node.parts.get(0), frame);
                    return sign(node.kind, left, work(node.parts.get(1), frame));
            }
        }
    }

    private static int sign(String sign, int left, int right) {
        switch (sign) {
            case "+":
                return left + right;
            case "-":
                return left - right;
            case "*":
                return left * right;
            case "<":
                return left < right ? 1 : 0;
            default:
                return left == right ? 1 : 0;
        }
    }

    int give(int v) {
        if (given.size() == 4) {
            throw new IllegalStateException();
        }
        given.add(v);
        return given.size();
    }

    int run(boolean made, int k, int steps) {
        int count = made ? versions.size() : program.size();
        if (count == 0) {
            throw new IllegalStateException();
        }
        if (k < 0 || k >= count) {
            throw new IndexOutOfBoundsException();
        }
        int params = made ? versions.get(k).left.size() : program.get(k).params.size();
        if (steps < 0 || steps > 20000 || params != given.size()) {
            throw new IllegalArgumentException();
        }
        Run run = new Run(made, steps);
        List<Integer> numbers = new ArrayList<>(given);
        given.clear();
        ran = new int[3];
        int how = 1;
        try {
            ran[0] = run.of(k, numbers);
        } catch (Stop stop) {
            how = stop.how;
        }
        ran[1] = run.steps;
        ran[2] = run.deepest;
        return how;
    }

    int ran(int what) {
        if (what < 0 || what > 2) {
            throw new IndexOutOfBoundsException();
        }
        return ran[what];
    }

    // ---- making

    int know(int i, int v) {
        if (i < 0 || i > 3) {
            throw new IndexOutOfBoundsException();
        }
        known.put(i, v);
        return known.size();
    }

    final class Making {
        final List<Version> made = new ArrayList<>();
        int tried = 0;
        int well = 0;
        int gone = 0;
        private int letCount = 0;

        Version wanted(int f, Map<Integer, Integer> numbers, boolean bounded) {
            for (Version version : made) {
                if (version.function == f && version.known.equals(numbers)) {
                    return version;
                }
            }
            if (bounded && made.size() >= 30) {
                return null;
            }
            Version version = new Version();
            version.function = f;
            version.known.putAll(numbers);
            for (int i = 0; i < program.get(f).params.size(); i++) {
                if (!numbers.containsKey(i)) {
                    version.left.add(String.valueOf((char) ('a' + version.left.size())));
                }
            }
            made.add(version);
            return version;
        }

        void all(int f, Map<Integer, Integer> numbers) {
            wanted(f, numbers, true);
            for (int k = 0; k < made.size(); k++) {
                Version version = made.get(k);
                Map<String, Node> meanings = new HashMap<>();
                List<String> params = program.get(version.function).params;
                int left = 0;
                for (int i = 0; i < params.size(); i++) {
                    boolean is = version.known.containsKey(i);
                    meanings.put(params.get(i), is ? number(version.known.get(i)) : name(version.left.get(left++)));
                }
                version.rest = become(program.get(version.function).body, meanings);
            }
        }

        private Node number(int value) {
            Node node = new Node("number");
            node.number = value;
            return node;
        }

        private Node name(String name) {
            Node node = new Node("name");
            node.name = name;
            return node;
        }

        private Node become(Node node, Map<String, Node> meanings) {
            if (++gone > 1000) {
                throw new UnsupportedOperationException();
            }
            Node rest = new Node(node.kind);
            switch (node.kind) {
                case "number":
                    return number(node.number);
                case "name":
                    Node meaning = meanings.get(node.name);
                    return meaning.isNumber() ? number(meaning.number) : name(meaning.name);
                case "let":
                    Node first = become(node.parts.get(0), meanings);
                    Map<String, Node> more = new HashMap<>(meanings);
                    rest.name = "let" + letCount++;
                    more.put(node.name, first.isNumber() ? first : name(rest.name));
                    Node last = become(node.parts.get(1), more);
                    rest.parts.addAll(List.of(first, last));
                    return first.isNumber() ? last : rest;
                case "if":
                    Node choice = become(node.parts.get(0), meanings);
                    if (choice.isNumber()) {
                        return become(node.parts.get(choice.number == 0 ? 2 : 1), meanings);
                    }
                    rest.parts.add(choice);
                    rest.parts.add(become(node.parts.get(1), meanings));
                    rest.parts.add(become(node.parts.get(2), meanings));
                    return rest;
                case "call":
                    return call(node, meanings);
                default:
                    Node left = become(node.parts.get(0), meanings);
                    Node right = become(node.parts.get(1), meanings);
                    rest.parts.addAll(List.of(left, right));
                    return left.isNumber() && right.isNumber() ? number(sign(node.kind, left.number, right.number)) : rest;
            }
        }

        private Node call(Node node, Map<String, Node> meanings) {
            List<Node> arguments = new ArrayList<>();
            Map<Integer, Integer> numbers = new HashMap<>();
            for (Node part : node.parts) {
                Node argument = become(part, meanings);
                if (argument.isNumber()) {
                    numbers.put(arguments.size(), argument.number);
                }
                arguments.add(argument);
            }
            if (numbers.size() == arguments.size()) {
                tried++;
                List<Integer> values = new ArrayList<>();
                arguments.forEach(a -> values.add(a.number));
                try {
                    Node value = number(new Run(false, 500).of(node.target, values));
                    well++;
                    return value;
                } catch (Stop stop) {
                    // it stays a call
                }
            }
            Node call = new Node("call");
            Version version = wanted(node.target, numbers, true);
            boolean special = version != null;
            if (!special) {
                version = wanted(node.target, Map.of(), false);
            }
            call.target = made.indexOf(version);
            for (Node argument : arguments) {
                if (!special || !argument.isNumber()) {
                    call.parts.add(argument);
                }
            }
            return call;
        }
    }

    int make(int f) {
        if (program.isEmpty()) {
            throw new IllegalStateException();
        }
        if (f < 0 || f >= program.size()) {
            throw new IndexOutOfBoundsException();
        }
        Map<Integer, Integer> numbers = new HashMap<>(known);
        numbers.keySet().removeIf(i -> i >= program.get(f).params.size());
        Making making = new Making();
        making.all(f, numbers);
        versions = making.made;
        known = new HashMap<>();
        int all = 0;
        for (Version version : versions) {
            all += version.rest.size();
        }
        told = new int[] {versions.size(), all, making.tried, making.well, making.gone};
        return versions.size();
    }

    int version(int k, int what) {
        if (k < 0 || k >= versions.size() || what < 0 || what > 9) {
            throw new IndexOutOfBoundsException();
        }
        Version version = versions.get(k);
        switch (what) {
            case 0:
                return version.function;
            case 1:
                int bits = 0;
                for (int i : version.known.keySet()) {
                    bits += 1 << i;
                }
                return bits;
            case 2:
                return version.left.size();
            case 3:
                return version.rest.size();
            case 4:
                return version.rest.lets();
            case 5:
                return version.rest.isNumber() ? 1 : 0;
            default:
                return version.known.getOrDefault(what - 6, 0);
        }
    }

    int told(int what) {
        if (what < 0 || what > 7) {
            throw new IndexOutOfBoundsException();
        }
        return what < 5 ? told[what] : what == 5 ? known.size() : what == 6 ? given.size() : tape.length();
    }

    int print() {
        if (versions.isEmpty()) {
            throw new IllegalStateException();
        }
        StringBuilder text = new StringBuilder();
        for (int k = 0; k < versions.size(); k++) {
            Version version = versions.get(k);
            Set<String> lets = new HashSet<>();
            Map<String, String> names = new HashMap<>();
            text.append("v" + k + "(" + String.join(", ", version.left) + ") = ");
            text.append(shown(version.rest, names, lets)).append(";\n");
        }
        if (text.length() > 40000) {
            throw new UnsupportedOperationException();
        }
        out = text.toString();
        return out.length();
    }

    private String shown(Node node, Map<String, String> names, Set<String> lets) {
        List<Node> parts = node.parts;
        switch (node.kind) {
            case "number":
                return node.number == Integer.MIN_VALUE ? "(-2147483647 - 1)" : "" + node.number;
            case "name":
                return names.getOrDefault(node.name, node.name);
            case "let":
                String name = "x" + lets.size();
                lets.add(name);
                names.put(node.name, name);
                String first = shown(parts.get(0), names, lets);
                return "(let " + name + " = " + first + " in " + shown(parts.get(1), names, lets) + ")";
            case "if":
                String choice = shown(parts.get(0), names, lets);
                String second = shown(parts.get(1), names, lets);
                return "(if " + choice + " then " + second + " else " + shown(parts.get(2), names, lets) + ")";
            case "call":
                List<String> arguments = new ArrayList<>();
                for (Node part : parts) {
                    arguments.add(shown(part, names, lets));
                }
                return "v" + node.target + "(" + String.join(", ", arguments) + ")";
            default:
                String left = shown(parts.get(0), names, lets);
                return "(" + left + " " + node.kind + " " + shown(parts.get(1), names, lets) + ")";
        }
    }

    int out(int i) {
        if (i < 0 || i >= out.length()) {
            throw new IndexOutOfBoundsException();
        }
        return out.charAt(i);
    }

    int back() {
        if (out.length() > 8000) {
            throw new IllegalStateException();
        }
        tape.setLength(0);
        tape.append(out);
        return tape.length();
    }
}
