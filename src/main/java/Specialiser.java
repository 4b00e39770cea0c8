/**
 * Makes functions anew for arguments that are known ahead: a text of functions is read, versions of one of them are
 * made in which all that can be worked out is, and both are run in the same way.
 *
 * The words in capitals are those of the document.
 */
public final class Specialiser {
    public static final int NONE = -1;

    private static final int MOST_TAPE = 8000;
    private static final int MOST_OUT = 40000;
    private static final int MOST_TOKENS = 1500;
    private static final int MOST_FUNCTIONS = 48;
    private static final int MOST_PARAMS = 4;
    private static final int MOST_NAMES = 16;
    private static final int MOST_WITHIN = 24;
    private static final int LONGEST_NAME = 8;
    private static final int LONGEST_NUMBER = 10;
    private static final int GREATEST_NUMBER = 2147483647;
    private static final int LEAST_NUMBER = -2147483648;
    private static final int MOST_STEPS = 20000;
    private static final int MOST_DEPTH = 160;
    private static final int STEPS_TRIED = 500;
    private static final int MOST_GONE = 1000;
    private static final int FREE_VERSIONS = 30;
    /** Beyond the free ones there is at most one VERSION more of each FUNCTION: that with nothing KNOWN. */
    private static final int MOST_VERSIONS = FREE_VERSIONS + MOST_FUNCTIONS;
    /** One E adds four EXPRESSIONS above the next E at most: == + * and a call. */
    private static final int DEEPEST_TREE = 4 * MOST_WITHIN;

    private static final int FAULT_NO_TOKEN = 1;
    private static final int FAULT_OUT_OF_PLACE = 2;
    private static final int FAULT_TOLD_ALREADY = 3;
    private static final int FAULT_NOT_THERE = 4;
    private static final int FAULT_ARGUMENTS = 5;
    private static final int FAULT_TOO_MANY = 6;

    private static final int ENDED_DONE = 1;
    private static final int ENDED_STEPS = 2;
    private static final int ENDED_DEPTH = 3;

    // Kinds of TOKENS and of EXPRESSIONS; a SIGN, a NUMBER, a NAME, let and if are called the same as both.
    private static final int NUMBER = 1;
    private static final int NAME = 2;
    private static final int LET = 3;
    private static final int IF = 4;
    private static final int CALL = 5;
    private static final int PLUS = 6;
    private static final int MINUS = 7;
    private static final int TIMES = 8;
    private static final int LESS = 9;
    private static final int SAME = 10;
    private static final int THEN = 11;
    private static final int ELSE = 12;
    private static final int IN = 13;
    private static final int EQUALS = 14;
    private static final int OPEN = 15;
    private static final int CLOSE = 16;
    private static final int COMMA = 17;
    private static final int SEMICOLON = 18;
    private static final int NO_TOKEN = 19;
    private static final int END = 20;

    // The WORDS, packed as NAMES are: eight bits a byte.
    private static final long WORD_IF = 'i' << 8 | 'f';
    private static final long WORD_IN = 'i' << 8 | 'n';
    private static final long WORD_LET = 'l' << 16 | 'e' << 8 | 't';
    private static final long WORD_THEN = 't' << 24 | 'h' << 16 | 'e' << 8 | 'n';
    private static final long WORD_ELSE = 'e' << 24 | 'l' << 16 | 's' << 8 | 'e';

    private final Row tape;
    private int tapeLength;
    private int faultPlace;
    private final Tokens tokens;
    private final Reader reader;
    private Bodies program;
    private Bodies spareProgram;
    private Versions versions;
    private Versions spareVersions;
    private final Runner runner;
    private final Maker maker;
    private final Row knownNumbers;
    private int knownMask;
    private final Row toldNumbers;
    private final Row outBytes;
    private int outLength;
    private final Printer printer;
    private final Row givenNumbers;
    private int givenCount;
    private final Row ranNumbers;

    public Specialiser() {
        tape = new Row(MOST_TAPE);
        tapeLength = 0;
        faultPlace = NONE;
        tokens = new Tokens(tape);
        program = new Bodies(MOST_TOKENS, MOST_FUNCTIONS);
        spareProgram = new Bodies(MOST_TOKENS, MOST_FUNCTIONS);
        reader = new Reader(tokens, spareProgram);
        versions = new Versions();
        spareVersions = new Versions();
        runner = new Runner(program);
        maker = new Maker(runner, program, spareVersions);
        knownNumbers = new Row(MOST_PARAMS);
        knownMask = 0;
        toldNumbers = new Row(5);
        outBytes = new Row(MOST_OUT);
        outLength = 0;
        printer = new Printer(outBytes, versions);
        givenNumbers = new Row(MOST_PARAMS);
        givenCount = 0;
        ranNumbers = new Row(3);
    }

    public int feed(int a, int b, int c, int d, int e) throws IllegalStateException {
        if (tapeLength + 20 > MOST_TAPE) {
            throw new IllegalStateException("no room");
        }
        feedFour(a);
        feedFour(b);
        feedFour(c);
        feedFour(d);
        feedFour(e);
        return tapeLength;
    }

    private void feedFour(int bytes) {
        for (int shift = 24; shift >= 0; shift -= 8) {
            tape.put(tapeLength, bytes >>> shift & 255);
            tapeLength++;
        }
    }

    public int cut(int n) throws IllegalArgumentException {
        if (n < 0 || n > tapeLength) {
            throw new IllegalArgumentException("not so many bytes");
        }
        int gone = tapeLength - n;
        tapeLength = n;
        return gone;
    }

    public int read() {
        tokens.scan(tapeLength);
        tapeLength = 0;
        int fault = reader.take(spareProgram);
        faultPlace = reader.faultPlace();
        if (fault != 0) {
            return -fault;
        }
        Bodies old = program;
        program = spareProgram;
        spareProgram = old;
        versions.clear();
        return program.count();
    }

    public int place() {
        return faultPlace;
    }

    public int function(int f, int what) throws IndexOutOfBoundsException {
        if (!program.has(f) || what < 0 || what > 2) {
            throw new IndexOutOfBoundsException("no such function or what");
        }
        switch (what) {
            case 0:
                return program.params(f);
            case 1:
                return program.expressions(f);
            default:
                return program.lets(f);
        }
    }

    // ---- making

    public int know(int i, int v) throws IndexOutOfBoundsException {
        if (i < 0 || i >= MOST_PARAMS) {
            throw new IndexOutOfBoundsException("no such parameter");
        }
        knownMask |= 1 << i;
        knownNumbers.put(i, v);
        return Integer.bitCount(knownMask);
    }

    public int make(int f)
            throws IllegalStateException, IndexOutOfBoundsException, UnsupportedOperationException {
        if (program.count() == 0) {
            throw new IllegalStateException("no program");
        }
        if (!program.has(f)) {
            throw new IndexOutOfBoundsException("no such function");
        }
        // The spare ones are filled, so that what was made before stays if this is given up.
        spareVersions.clear();
        spareVersions.add(f, knownMask & program.paramMask(f), knownNumbers, program.params(f));
        maker.fill(program, spareVersions);
        Versions old = versions;
        versions = spareVersions;
        spareVersions = old;
        knownMask = 0;
        keepTold();
        return versions.count();
    }

    private void keepTold() {
        toldNumbers.put(0, versions.count());
        toldNumbers.put(1, versions.expressions());
        toldNumbers.put(2, maker.tried());
        toldNumbers.put(3, maker.triedWell());
        toldNumbers.put(4, maker.goneThrough());
    }

    public int version(int k, int what) throws IndexOutOfBoundsException {
        if (!versions.bodies().has(k) || what < 0 || what > 9) {
            throw new IndexOutOfBoundsException("no such version or what");
        }
        switch (what) {
            case 0:
                return versions.functionOf(k);
            case 1:
                return versions.mask(k);
            case 2:
                return versions.bodies().params(k);
            case 3:
                return versions.bodies().expressions(k);
            case 4:
                return versions.bodies().lets(k);
            case 5:
                return versions.isNumber(k) ? 1 : 0;
            default:
                return versions.number(k, what - 6);
        }
    }

    public int told(int what) throws IndexOutOfBoundsException {
        if (what < 0 || what > 7) {
            throw new IndexOutOfBoundsException("no such what");
        }
        switch (what) {
            case 5:
                return Integer.bitCount(knownMask);
            case 6:
                return givenCount;
            case 7:
                return tapeLength;
            default:
                return toldNumbers.at(what);
        }
    }

    public int print() throws IllegalStateException, UnsupportedOperationException {
        if (versions.count() == 0) {
            throw new IllegalStateException("no versions");
        }
        if (printer.showAll(versions, false) > MOST_OUT) {
            throw new UnsupportedOperationException("too long");
        }
        outLength = printer.showAll(versions, true);
        return outLength;
    }

    public int out(int i) throws IndexOutOfBoundsException {
        if (i < 0 || i >= outLength) {
            throw new IndexOutOfBoundsException("no such byte");
        }
        return outBytes.at(i);
    }

    public int back() throws IllegalStateException {
        if (outLength > MOST_TAPE) {
            throw new IllegalStateException("too long");
        }
        for (int i = 0; i < outLength; i++) {
            tape.put(i, outBytes.at(i));
        }
        tapeLength = outLength;
        return tapeLength;
    }

    // ---- runs

    public int give(int v) throws IllegalStateException {
        if (givenCount >= MOST_PARAMS) {
            throw new IllegalStateException("four are given");
        }
        givenNumbers.put(givenCount, v);
        givenCount++;
        return givenCount;
    }

    public int run(boolean made, int k, int steps)
            throws IllegalStateException, IndexOutOfBoundsException, IllegalArgumentException {
        Bodies bodies = made ? versions.bodies() : program;
        if (bodies.count() == 0) {
            throw new IllegalStateException("nothing to run");
        }
        if (!bodies.has(k)) {
            throw new IndexOutOfBoundsException("no such function or version");
        }
        if (steps < 0 || steps > MOST_STEPS || givenCount != bodies.params(k)) {
            throw new IllegalArgumentException("steps or numbers given");
        }
        givenCount = 0;
        int end = runner.work(bodies, k, givenNumbers, steps);
        ranNumbers.put(0, end == ENDED_DONE ? runner.result() : 0);
        ranNumbers.put(1, runner.steps());
        ranNumbers.put(2, runner.deepest());
        return end;
    }

    public int ran(int what) throws IndexOutOfBoundsException {
        if (what < 0 || what > 2) {
            throw new IndexOutOfBoundsException("no such what");
        }
        return ranNumbers.at(what);
    }

    /** What a SIGN gives of two numbers: runs and VERSIONS must never differ in it. */
    private static int signed(int sign, int left, int right) {
        switch (sign) {
            case PLUS:
                return left + right;
            case MINUS:
                return left - right;
            case TIMES:
                return left * right;
            case LESS:
                return left < right ? 1 : 0;
            default:
                return left == right ? 1 : 0;
        }
    }

    /** Ints whose index is looked at here, once for all: beyond the ends stands 0, and nothing is kept there. */
    private static final class Row {
        private final int[] cells;

        Row(int length) {
            cells = new int[length < 0 ? 0 : length];
        }

        int at(int i) {
            return i >= 0 && i < cells.length ? cells[i] : 0;
        }

        void put(int i, int v) {
            if (i >= 0 && i < cells.length) {
                cells[i] = v;
            }
        }
    }

    /** The same for longs: NAMES are longs of eight bytes, so that two are compared at once. */
    private static final class LongRow {
        private final long[] cells;

        LongRow(int length) {
            cells = new long[length < 0 ? 0 : length];
        }

        long at(int i) {
            return i >= 0 && i < cells.length ? cells[i] : 0;
        }

        void put(int i, long v) {
            if (i >= 0 && i < cells.length) {
                cells[i] = v;
            }
        }

        /** The last one counts, for inner NAMES hide outer ones. */
        int lastOf(long v, int count) {
            for (int i = count - 1; i >= 0; i--) {
                if (at(i) == v) {
                    return i;
                }
            }
            return NONE;
        }
    }

    /** THE TAPE's TOKENS: their kinds, where they begin, and the number or the packed NAME that they are. */
    private static final class Tokens {
        /** One more than may be, for it must be known where the first one too many begins and what it is. */
        private static final int KEPT = MOST_TOKENS + 1;

        private final Row bytes;
        private final Row kinds;
        private final Row starts;
        private final LongRow values;
        private int length;
        private int count;

        Tokens(Row bytes) {
            this.bytes = bytes;
            kinds = new Row(KEPT);
            starts = new Row(KEPT);
            values = new LongRow(KEPT);
            length = 0;
            count = 0;
        }

        int kind(int i) {
            return i < count ? kinds.at(i) : END;
        }

        int start(int i) {
            return i < count ? starts.at(i) : length;
        }

        long value(int i) {
            return values.at(i);
        }

        void scan(int tapeLength) {
            length = tapeLength;
            count = 0;
            for (int at = 0; at < length && count < KEPT; at += Math.max(1, scanOne(at))) {
                starts.put(count, at);
            }
        }

        /** Gives how many bytes the TOKEN or the blank has that begins there. */
        private int scanOne(int at) {
            int b = bytes.at(at);
            if (b == ' ' || b == '\n') {
                return 1;
            }
            if (isLetter(b) || isDigit(b)) {
                return scanRow(at);
            }
            if (b == '=' && at + 1 < length && bytes.at(at + 1) == '=') {
                return keep(SAME, 0, 2);
            }
            return keep(signKind(b), 0, 1);
        }

        private int scanRow(int at) {
            long packed = 0;
            long number = 0;
            boolean digitsAlone = true;
            int end = at;
            for (; end < length && (isLetter(bytes.at(end)) || isDigit(bytes.at(end))); end++) {
                int b = bytes.at(end);
                packed = packed << 8 | b;
                number = number * 10 + (b - '0');
                digitsAlone = digitsAlone && isDigit(b);
            }
            int size = end - at;
            if (isLetter(bytes.at(at))) {
                return size <= LONGEST_NAME ? keep(wordKind(packed), packed, size) : keep(NO_TOKEN, 0, size);
            }
            // The size comes first: a longer row has run over in number.
            boolean fits = digitsAlone && size <= LONGEST_NUMBER && number <= GREATEST_NUMBER;
            return fits ? keep(NUMBER, number, size) : keep(NO_TOKEN, 0, size);
        }

        private int keep(int kind, long value, int size) {
            kinds.put(count, kind);
            values.put(count, value);
            count++;
            return size;
        }

        private static boolean isLetter(int b) {
            return b >= 'a' && b <= 'z';
        }

        private static boolean isDigit(int b) {
            return b >= '0' && b <= '9';
        }

        private static int wordKind(long packed) {
            if (packed == WORD_IF) {
                return IF;
            }
            if (packed == WORD_IN) {
                return IN;
            }
            if (packed == WORD_LET) {
                return LET;
            }
            if (packed == WORD_THEN) {
                return THEN;
            }
            return packed == WORD_ELSE ? ELSE : NAME;
        }

        private static int signKind(int b) {
            switch (b) {
                case '=':
                    return EQUALS;
                case '(':
                    return OPEN;
                case ')':
                    return CLOSE;
                case ',':
                    return COMMA;
                case ';':
                    return SEMICOLON;
                case '+':
                    return PLUS;
                case '-':
                    return MINUS;
                case '*':
                    return TIMES;
                case '<':
                    return LESS;
                default:
                    return NO_TOKEN;
            }
        }
    }

    /**
     * EXPRESSIONS, each with a kind, a value and parts. The value is a NUMBER's number, the place in a frame of a
     * NAME or a let, the FUNCTION or VERSION of a call.
     */
    private static final class Trees {
        private final Row kinds;
        private final Row values;
        private final Row counts;
        private final Row parts;
        private final Row sizes;
        private final Row lets;
        private int count;

        Trees(int most) {
            kinds = new Row(most);
            values = new Row(most);
            counts = new Row(most);
            parts = new Row(most * MOST_PARAMS);
            sizes = new Row(most);
            lets = new Row(most);
            count = 0;
        }

        void clear() {
            count = 0;
        }

        int count() {
            return count;
        }

        int open(int kind, int value) {
            int node = count;
            count++;
            kinds.put(node, kind);
            values.put(node, value);
            counts.put(node, 0);
            sizes.put(node, 1);
            lets.put(node, kind == LET ? 1 : 0);
            return node;
        }

        /** Parts beyond the fourth are counted alone: a call with so many is a FAULT and never worked out. */
        void append(int node, int part) {
            int before = counts.at(node);
            if (before < MOST_PARAMS) {
                parts.put(node * MOST_PARAMS + before, part);
            }
            counts.put(node, before + 1);
            sizes.put(node, sizes.at(node) + sizes.at(part));
            lets.put(node, lets.at(node) + lets.at(part));
        }

        int join(int sign, int left, int right) {
            int node = open(sign, 0);
            append(node, left);
            append(node, right);
            return node;
        }

        void lead(int call, int target) {
            values.put(call, target);
        }

        void turnIntoNumber(int node, int number) {
            kinds.put(node, NUMBER);
            values.put(node, number);
            counts.put(node, 0);
            sizes.put(node, 1);
            lets.put(node, 0);
        }

        void dropNumbers(int call) {
            int kept = 0;
            for (int i = 0; i < parts(call); i++) {
                int part = part(call, i);
                if (kind(part) == NUMBER) {
                    sizes.put(call, sizes.at(call) - 1);
                } else {
                    parts.put(call * MOST_PARAMS + kept, part);
                    kept++;
                }
            }
            counts.put(call, kept);
        }

        int kind(int node) {
            return kinds.at(node);
        }

        int value(int node) {
            return values.at(node);
        }

        int parts(int node) {
            return counts.at(node);
        }

        int part(int node, int i) {
            return i >= 0 && i < MOST_PARAMS ? parts.at(node * MOST_PARAMS + i) : 0;
        }

        int size(int node) {
            return sizes.at(node);
        }

        int lets(int node) {
            return lets.at(node);
        }
    }

    /** What can be run: FUNCTIONS of a PROGRAM, or the RESTS of VERSIONS. */
    private static final class Bodies {
        private final Trees trees;
        private final Row roots;
        private final Row params;
        private int count;

        Bodies(int mostExpressions, int most) {
            trees = new Trees(mostExpressions);
            roots = new Row(most);
            params = new Row(most);
            count = 0;
        }

        void clear() {
            trees.clear();
            count = 0;
        }

        int add(int paramCount) {
            params.put(count, paramCount);
            count++;
            return count - 1;
        }

        void setRoot(int k, int node) {
            roots.put(k, node);
        }

        boolean has(int k) {
            return k >= 0 && k < count;
        }

        int count() {
            return count;
        }

        Trees trees() {
            return trees;
        }

        int root(int k) {
            return roots.at(k);
        }

        int params(int k) {
            return params.at(k);
        }

        int paramMask(int k) {
            return (1 << params(k)) - 1;
        }

        int expressions(int k) {
            return trees.size(root(k));
        }

        int lets(int k) {
            return trees.lets(root(k));
        }
    }

    /**
     * Takes TOKENS as a PROGRAM. At the first FAULT the text ends for it: from then on it looks at END, which is
     * never taken, so that all that is open comes to its end.
     */
    private static final class Reader {
        private final Tokens tokens;
        private Bodies text;
        private Trees trees;
        private int index;
        private int ahead;
        private int fault;
        private int faultToken;
        private final LongRow functionNames;
        private int nameCount;
        private final LongRow scopeNames;
        private final Row scopeSlots;
        private int scopeCount;
        private int missing;

        Reader(Tokens tokens, Bodies text) {
            this.tokens = tokens;
            this.text = text;
            trees = text.trees();
            index = 0;
            ahead = END;
            fault = 0;
            faultToken = 0;
            functionNames = new LongRow(MOST_FUNCTIONS);
            nameCount = 0;
            scopeNames = new LongRow(MOST_NAMES);
            scopeSlots = new Row(MOST_NAMES);
            scopeCount = 0;
            missing = NONE;
        }

        int faultPlace() {
            return fault == 0 ? NONE : tokens.start(faultToken);
        }

        /** Gives the number of the FAULT, 0 if there is none. */
        int take(Bodies into) {
            text = into;
            trees = into.trees();
            text.clear();
            index = 0;
            ahead = tokens.kind(0);
            fault = 0;
            missing = NONE;
            takeFunction();
            for (int i = 0; i < MOST_TOKENS && ahead != END; i++) {
                takeFunction();
            }
            if (fault == 0) {
                leadCalls();
            }
            return fault;
        }

        private void faultAt(int number, int token) {
            if (fault == 0) {
                fault = number;
                faultToken = token;
                ahead = END;
            }
        }

        private void refuse() {
            faultAt(ahead == NO_TOKEN ? FAULT_NO_TOKEN : FAULT_OUT_OF_PLACE, index);
        }

        /** The bound on TOKENS is looked at last, for of one TOKEN it is the greatest FAULT. */
        private void takeKind(int kind) {
            if (ahead != kind) {
                refuse();
            } else if (index >= MOST_TOKENS) {
                faultAt(FAULT_TOO_MANY, index);
            } else {
                index++;
                ahead = tokens.kind(index);
            }
        }

        private long takeNewName(boolean toldAlready, boolean tooMany) {
            long name = tokens.value(index);
            if (ahead == NAME && toldAlready) {
                faultAt(FAULT_TOLD_ALREADY, index);
            } else if (ahead == NAME && tooMany) {
                faultAt(FAULT_TOO_MANY, index);
            }
            takeKind(NAME);
            return name;
        }

        private void takeFunction() {
            int told = text.count();
            boolean toldAlready = functionNames.lastOf(tokens.value(index), told) != NONE;
            functionNames.put(told, takeNewName(toldAlready, told >= MOST_FUNCTIONS));
            nameCount = 0;
            scopeCount = 0;
            takeKind(OPEN);
            if (ahead != CLOSE) {
                takeParam();
                for (int i = 0; i < MOST_TOKENS && ahead == COMMA; i++) {
                    takeKind(COMMA);
                    takeParam();
                }
            }
            takeKind(CLOSE);
            takeKind(EQUALS);
            int f = text.add(nameCount);
            text.setRoot(f, takeE(0));
            takeKind(SEMICOLON);
        }

        private void takeParam() {
            boolean toldAlready = scopeNames.lastOf(tokens.value(index), scopeCount) != NONE;
            long name = takeNewName(toldAlready, nameCount >= MOST_PARAMS);
            enter(name, nameCount);
            nameCount++;
        }

        private void enter(long name, int slot) {
            scopeNames.put(scopeCount, name);
            scopeSlots.put(scopeCount, slot);
            scopeCount++;
        }

        private int takeE(int within) {
            if (within >= MOST_WITHIN) {
                refuseWithin();
                return 0;
            }
            switch (ahead) {
                case LET:
                    return takeLet(within);
                case IF:
                    return takeIf(within);
                default:
                    return takeComparison(within);
            }
        }

        private void refuseWithin() {
            switch (ahead) {
                case LET:
                case IF:
                case MINUS:
                case NUMBER:
                case NAME:
                case OPEN:
                    faultAt(FAULT_TOO_MANY, index);
                    break;
                default:
                    refuse();
            }
        }

        private int takeLet(int within) {
            takeKind(LET);
            long name = takeNewName(false, nameCount >= MOST_NAMES);
            int slot = nameCount;
            nameCount++;
            takeKind(EQUALS);
            int let = trees.open(LET, slot);
            trees.append(let, takeE(within + 1));
            takeKind(IN);
            enter(name, slot);
            trees.append(let, takeE(within + 1));
            scopeCount--;
            return let;
        }

        private int takeIf(int within) {
            int node = trees.open(IF, 0);
            takeKind(IF);
            trees.append(node, takeE(within + 1));
            takeKind(THEN);
            trees.append(node, takeE(within + 1));
            takeKind(ELSE);
            trees.append(node, takeE(within + 1));
            return node;
        }

        private int takeComparison(int within) {
            int left = takeSum(within);
            int sign = ahead;
            if (sign != LESS && sign != SAME) {
                return left;
            }
            takeKind(sign);
            return trees.join(sign, left, takeSum(within));
        }

        private int takeSum(int within) {
            int left = takeProduct(within);
            int sign = ahead;
            if (sign != PLUS && sign != MINUS) {
                return left;
            }
            takeKind(sign);
            return trees.join(sign, left, takeProduct(within));
        }

        private int takeProduct(int within) {
            int left = takeAtom(within);
            if (ahead != TIMES) {
                return left;
            }
            takeKind(TIMES);
            return trees.join(TIMES, left, takeAtom(within));
        }

        private int takeAtom(int within) {
            switch (ahead) {
                case MINUS:
                    takeKind(MINUS);
                    return takeNumber(-1);
                case NUMBER:
                    return takeNumber(1);
                case NAME:
                    takeKind(NAME);
                    return ahead == OPEN ? takeCall(index - 1, within) : nameAlone(index - 1);
                case OPEN:
                    takeKind(OPEN);
                    int inner = takeE(within + 1);
                    takeKind(CLOSE);
                    return inner;
                default:
                    refuse();
                    return 0;
            }
        }

        private int takeNumber(int sign) {
            int number = (int) tokens.value(index);
            takeKind(NUMBER);
            return trees.open(NUMBER, sign * number);
        }

        /** That it is not there is kept for later: the FAULTS of single TOKENS come first, those behind it too. */
        private int nameAlone(int token) {
            int found = scopeNames.lastOf(tokens.value(token), scopeCount);
            if (found == NONE && missing == NONE) {
                missing = token;
            }
            return trees.open(NAME, scopeSlots.at(found));
        }

        /** Till all FUNCTIONS are told a call leads to its NAME's TOKEN. */
        private int takeCall(int token, int within) {
            int call = trees.open(CALL, token);
            takeKind(OPEN);
            if (ahead != CLOSE) {
                trees.append(call, takeE(within + 1));
                for (int i = 0; i < MOST_TOKENS && ahead == COMMA; i++) {
                    takeKind(COMMA);
                    trees.append(call, takeE(within + 1));
                }
            }
            takeKind(CLOSE);
            return call;
        }

        /**
         * Calls were opened ahead of their arguments, so they come here in the order of the text, which is that of
         * the FAULTS; so those behind a NAME alone that is missing need not be looked at.
         */
        private void leadCalls() {
            int last = missing == NONE ? MOST_TOKENS : missing;
            for (int node = 0; node < trees.count() && fault == 0; node++) {
                if (trees.kind(node) == CALL && trees.value(node) < last) {
                    leadCall(node, trees.value(node));
                }
            }
            if (missing != NONE) {
                faultAt(FAULT_NOT_THERE, missing);
            }
        }

        private void leadCall(int call, int token) {
            int f = functionNames.lastOf(tokens.value(token), text.count());
            if (f == NONE) {
                faultAt(FAULT_NOT_THERE, token);
            } else if (trees.parts(call) != text.params(f)) {
                faultAt(FAULT_ARGUMENTS, token);
            }
            trees.lead(call, f);
        }
    }

    /**
     * Works bodies out without calling itself: an EXPRESSION that is begun stands in the rows below at its DEPTH, and
     * its turn tells how often it has been gone on with. A call's frame is that of its own DEPTH, frame 0 that of the
     * numbers GIVEN.
     */
    private static final class Runner {
        private final Row nodes;
        private final Row turns;
        private final Row lefts;
        private final Row frames;
        private final Row slots;
        private Bodies bodies;
        private Trees trees;
        private int limit;
        private int depth;
        private int steps;
        private int deepest;
        private int result;
        private int end;

        Runner(Bodies bodies) {
            nodes = new Row(MOST_DEPTH + 1);
            turns = new Row(MOST_DEPTH + 1);
            lefts = new Row(MOST_DEPTH + 1);
            frames = new Row(MOST_DEPTH + 1);
            slots = new Row((MOST_DEPTH + 1) * MOST_NAMES);
            this.bodies = bodies;
            trees = bodies.trees();
            limit = 0;
            depth = 0;
            steps = 0;
            deepest = 0;
            result = 0;
            end = 0;
        }

        int steps() {
            return steps;
        }

        int deepest() {
            return deepest;
        }

        int result() {
            return result;
        }

        /** Gives how the run ended. Every round begins an EXPRESSION or ends one, so there are two a STEP at most. */
        int work(Bodies of, int k, Row given, int mostSteps) {
            bodies = of;
            trees = of.trees();
            limit = mostSteps;
            depth = 0;
            steps = 0;
            deepest = 0;
            end = 0;
            for (int i = 0; i < MOST_PARAMS; i++) {
                slots.put(i, given.at(i));
            }
            begin(of.root(k), 0);
            for (int i = 0; i < 2 * MOST_STEPS && end == 0; i++) {
                int node = nodes.at(depth);
                int turn = turns.at(depth);
                turns.put(depth, turn + 1);
                switch (trees.kind(node)) {
                    case NUMBER:
                        finish(trees.value(node));
                        break;
                    case NAME:
                        finish(slots.at(slot(trees.value(node))));
                        break;
                    case LET:
                        goOnLet(node, turn);
                        break;
                    case IF:
                        goOnIf(node, turn);
                        break;
                    case CALL:
                        goOnCall(node, turn);
                        break;
                    default:
                        goOnSign(node, turn);
                }
            }
            return end;
        }

        private void begin(int node, int frame) {
            if (steps >= limit) {
                end = ENDED_STEPS;
                return;
            }
            if (depth >= MOST_DEPTH) {
                end = ENDED_DEPTH;
                return;
            }
            steps++;
            depth++;
            deepest = Math.max(deepest, depth);
            nodes.put(depth, node);
            turns.put(depth, 0);
            frames.put(depth, frame);
        }

        private void finish(int number) {
            result = number;
            depth--;
            if (depth == 0) {
                end = ENDED_DONE;
            }
        }

        private int slot(int name) {
            return frames.at(depth) * MOST_NAMES + name;
        }

        private void goOnLet(int node, int turn) {
            if (turn == 0) {
                begin(trees.part(node, 0), frames.at(depth));
            } else if (turn == 1) {
                slots.put(slot(trees.value(node)), result);
                begin(trees.part(node, 1), frames.at(depth));
            } else {
                finish(result);
            }
        }

        private void goOnIf(int node, int turn) {
            if (turn == 0) {
                begin(trees.part(node, 0), frames.at(depth));
            } else if (turn == 1) {
                begin(trees.part(node, result == 0 ? 2 : 1), frames.at(depth));
            } else {
                finish(result);
            }
        }

        private void goOnSign(int node, int turn) {
            if (turn == 0) {
                begin(trees.part(node, 0), frames.at(depth));
            } else if (turn == 1) {
                lefts.put(depth, result);
                begin(trees.part(node, 1), frames.at(depth));
            } else {
                finish(signed(trees.kind(node), lefts.at(depth), result));
            }
        }

        private void goOnCall(int node, int turn) {
            int arguments = trees.parts(node);
            if (turn > arguments) {
                finish(result);
                return;
            }
            if (turn > 0) {
                slots.put(depth * MOST_NAMES + turn - 1, result);
            }
            if (turn < arguments) {
                begin(trees.part(node, turn), frames.at(depth));
            } else {
                begin(bodies.root(trees.value(node)), depth);
            }
        }
    }

    /** VERSIONS: of which FUNCTION, what is KNOWN, and as bodies their RESTS. */
    private static final class Versions {
        private final Bodies bodies;
        private final Row functions;
        private final Row masks;
        private final Row numbers;

        Versions() {
            bodies = new Bodies(MOST_GONE, MOST_VERSIONS);
            functions = new Row(MOST_VERSIONS);
            masks = new Row(MOST_VERSIONS);
            numbers = new Row(MOST_VERSIONS * MOST_PARAMS);
        }

        void clear() {
            bodies.clear();
        }

        int add(int f, int mask, Row known, int params) {
            int k = bodies.add(params - Integer.bitCount(mask));
            functions.put(k, f);
            masks.put(k, mask);
            for (int i = 0; i < MOST_PARAMS; i++) {
                numbers.put(k * MOST_PARAMS + i, isIn(mask, i) ? known.at(i) : 0);
            }
            return k;
        }

        int find(int f, int mask, Row known) {
            for (int k = 0; k < count(); k++) {
                if (functionOf(k) == f && mask(k) == mask && agrees(k, mask, known)) {
                    return k;
                }
            }
            return NONE;
        }

        private boolean agrees(int k, int mask, Row known) {
            for (int i = 0; i < MOST_PARAMS; i++) {
                if (isIn(mask, i) && numbers.at(k * MOST_PARAMS + i) != known.at(i)) {
                    return false;
                }
            }
            return true;
        }

        static boolean isIn(int mask, int i) {
            return (mask >> i & 1) == 1;
        }

        Bodies bodies() {
            return bodies;
        }

        int count() {
            return bodies.count();
        }

        int functionOf(int k) {
            return functions.at(k);
        }

        int mask(int k) {
            return masks.at(k);
        }

        int number(int k, int i) {
            return numbers.at(k * MOST_PARAMS + i);
        }

        boolean isNumber(int k) {
            return bodies.trees().kind(bodies.root(k)) == NUMBER;
        }

        int expressions() {
            int all = 0;
            for (int k = 0; k < count(); k++) {
                all += bodies.expressions(k);
            }
            return all;
        }
    }

    /**
     * Makes the RESTS of VERSIONS. Each EXPRESSION that is gone through leaves one EXPRESSION in the RESTS' trees at
     * most, so their room is that of the EXPRESSIONS that may be GONE THROUGH.
     */
    private static final class Maker {
        private final Runner runner;
        private Bodies program;
        private Trees text;
        private Versions versions;
        private Trees rests;
        /** Of each NAME of the VERSION at hand, whether it is a NUMBER, and that or its place in the REST's frame. */
        private final Row areNumbers;
        private final Row meanings;
        private final Row wanted;
        private int gone;
        private int tried;
        private int triedWell;

        Maker(Runner runner, Bodies program, Versions versions) {
            this.runner = runner;
            this.program = program;
            text = program.trees();
            this.versions = versions;
            rests = versions.bodies().trees();
            areNumbers = new Row(MOST_NAMES);
            meanings = new Row(MOST_NAMES);
            wanted = new Row(MOST_PARAMS);
            gone = 0;
            tried = 0;
            triedWell = 0;
        }

        int goneThrough() {
            return gone;
        }

        int tried() {
            return tried;
        }

        int triedWell() {
            return triedWell;
        }

        /** VERSION 0 is there already; those that are wanted on the way come behind it while this goes on. */
        void fill(Bodies of, Versions into) {
            program = of;
            text = of.trees();
            versions = into;
            rests = into.bodies().trees();
            gone = 0;
            tried = 0;
            triedWell = 0;
            for (int k = 0; k < MOST_VERSIONS && k < versions.count(); k++) {
                bindParams(k);
                versions.bodies().setRoot(k, become(program.root(versions.functionOf(k)), 0));
            }
        }

        private void bindParams(int k) {
            int left = 0;
            for (int i = 0; i < program.params(versions.functionOf(k)); i++) {
                if (Versions.isIn(versions.mask(k), i)) {
                    bind(i, 1, versions.number(k, i));
                } else {
                    bind(i, 0, left);
                    left++;
                }
            }
        }

        private void bind(int slot, int isNumber, int meaning) {
            areNumbers.put(slot, isNumber);
            meanings.put(slot, meaning);
        }

        private int become(int node, int depth) {
            if (gone >= MOST_GONE || depth >= DEEPEST_TREE) {
                throw new UnsupportedOperationException("too many expressions");
            }
            gone++;
            switch (text.kind(node)) {
                case NUMBER:
                    return rests.open(NUMBER, text.value(node));
                case NAME:
                    int slot = text.value(node);
                    return rests.open(areNumbers.at(slot) == 1 ? NUMBER : NAME, meanings.at(slot));
                case LET:
                    return becomeLet(node, depth);
                case IF:
                    return becomeIf(node, depth);
                case CALL:
                    return becomeCall(node, depth);
                default:
                    return becomeSign(node, depth);
            }
        }

        private boolean isNumber(int rest) {
            return rests.kind(rest) == NUMBER;
        }

        private int becomeSign(int node, int depth) {
            int left = become(text.part(node, 0), depth + 1);
            int right = become(text.part(node, 1), depth + 1);
            int sign = text.kind(node);
            if (isNumber(left) && isNumber(right)) {
                return rests.open(NUMBER, signed(sign, rests.value(left), rests.value(right)));
            }
            return rests.join(sign, left, right);
        }

        private int becomeIf(int node, int depth) {
            int first = become(text.part(node, 0), depth + 1);
            if (isNumber(first)) {
                return become(text.part(node, rests.value(first) == 0 ? 2 : 1), depth + 1);
            }
            int rest = rests.open(IF, 0);
            rests.append(rest, first);
            rests.append(rest, become(text.part(node, 1), depth + 1));
            rests.append(rest, become(text.part(node, 2), depth + 1));
            return rest;
        }

        /** A let that stays keeps its place in the frame: the PARAMS that are left all have lower ones. */
        private int becomeLet(int node, int depth) {
            int slot = text.value(node);
            int first = become(text.part(node, 0), depth + 1);
            if (isNumber(first)) {
                bind(slot, 1, rests.value(first));
                return become(text.part(node, 1), depth + 1);
            }
            bind(slot, 0, slot);
            int rest = rests.open(LET, slot);
            rests.append(rest, first);
            rests.append(rest, become(text.part(node, 1), depth + 1));
            return rest;
        }

        private int becomeCall(int node, int depth) {
            int call = rests.open(CALL, 0);
            for (int i = 0; i < MOST_PARAMS && i < text.parts(node); i++) {
                rests.append(call, become(text.part(node, i), depth + 1));
            }
            int f = text.value(node);
            int mask = gatherWanted(call);
            if (mask == program.paramMask(f)) {
                tried++;
                if (runner.work(program, f, wanted, STEPS_TRIED) == ENDED_DONE) {
                    triedWell++;
                    rests.turnIntoNumber(call, runner.result());
                    return call;
                }
            }
            leadToVersion(call, f, mask);
            return call;
        }

        private int gatherWanted(int call) {
            int mask = 0;
            for (int i = 0; i < MOST_PARAMS && i < rests.parts(call); i++) {
                int argument = rests.part(call, i);
                if (isNumber(argument)) {
                    mask |= 1 << i;
                    wanted.put(i, rests.value(argument));
                }
            }
            return mask;
        }

        private void leadToVersion(int call, int f, int mask) {
            int k = versions.find(f, mask, wanted);
            boolean asWanted = k != NONE || versions.count() < FREE_VERSIONS;
            if (asWanted) {
                rests.dropNumbers(call);
            } else {
                k = versions.find(f, 0, wanted);
            }
            if (k == NONE) {
                k = versions.add(f, asWanted ? mask : 0, wanted, program.params(f));
            }
            rests.lead(call, k);
        }
    }

    /** Prints VERSIONS into THE OUT, or counts the bytes alone: so THE OUT stays if they are too many. */
    private static final class Printer {
        private final Row bytes;
        private final Row letNumbers;
        private Versions versions;
        private Trees rests;
        private boolean writing;
        private int length;
        private int params;
        private int lets;

        Printer(Row bytes, Versions versions) {
            this.bytes = bytes;
            letNumbers = new Row(MOST_NAMES);
            this.versions = versions;
            rests = versions.bodies().trees();
            writing = false;
            length = 0;
            params = 0;
            lets = 0;
        }

        int showAll(Versions of, boolean write) {
            versions = of;
            rests = of.bodies().trees();
            writing = write;
            length = 0;
            for (int k = 0; k < versions.count(); k++) {
                showVersion(k);
            }
            return length;
        }

        private void put(int b) {
            if (writing) {
                bytes.put(length, b);
            }
            length++;
        }

        private void putText(String text) {
            for (int i = 0; i < text.length(); i++) {
                put(text.charAt(i));
            }
        }

        private void putNumber(int number) {
            int rest = number < 0 ? -number : number;
            if (number < 0) {
                put('-');
            }
            for (int unit = 1000000000; unit > 0; unit /= 10) {
                if (rest >= unit || unit == 1) {
                    put('0' + rest / unit % 10);
                }
            }
        }

        private void showVersion(int k) {
            params = versions.bodies().params(k);
            lets = 0;
            put('v');
            putNumber(k);
            put('(');
            for (int i = 0; i < params; i++) {
                putText(i == 0 ? "" : ", ");
                put('a' + i);
            }
            putText(") = ");
            show(versions.bodies().root(k), 0);
            putText(";\n");
        }

        private void show(int node, int depth) {
            if (depth >= DEEPEST_TREE) {
                return;
            }
            switch (rests.kind(node)) {
                case NUMBER:
                    showNumber(rests.value(node));
                    break;
                case NAME:
                    showName(rests.value(node));
                    break;
                case LET:
                    showLet(node, depth);
                    break;
                case IF:
                    showIf(node, depth);
                    break;
                case CALL:
                    showCall(node, depth);
                    break;
                default:
                    showSign(node, depth);
            }
        }

        /** The least int has no figures that could be read again. */
        private void showNumber(int number) {
            if (number == LEAST_NUMBER) {
                putText("(-2147483647 - 1)");
            } else {
                putNumber(number);
            }
        }

        private void showName(int slot) {
            if (slot < params) {
                put('a' + slot);
            } else {
                put('x');
                putNumber(letNumbers.at(slot));
            }
        }

        private void showLet(int node, int depth) {
            int slot = rests.value(node);
            putText("(let x");
            putNumber(lets);
            putText(" = ");
            letNumbers.put(slot, lets);
            lets++;
            show(rests.part(node, 0), depth + 1);
            putText(" in ");
            show(rests.part(node, 1), depth + 1);
            put(')');
        }

        private void showIf(int node, int depth) {
            putText("(if ");
            show(rests.part(node, 0), depth + 1);
            putText(" then ");
            show(rests.part(node, 1), depth + 1);
            putText(" else ");
            show(rests.part(node, 2), depth + 1);
            put(')');
        }

        private void showCall(int node, int depth) {
            put('v');
            putNumber(rests.value(node));
            put('(');
            for (int i = 0; i < MOST_PARAMS && i < rests.parts(node); i++) {
                putText(i == 0 ? "" : ", ");
                show(rests.part(node, i), depth + 1);
            }
            put(')');
        }

        private void showSign(int node, int depth) {
            put('(');
            show(rests.part(node, 0), depth + 1);
            putText(signText(rests.kind(node)));
            show(rests.part(node, 1), depth + 1);
            put(')');
        }

        private static String signText(int sign) {
            switch (sign) {
                case PLUS:
                    return " + ";
                case MINUS:
                    return " - ";
                case TIMES:
                    return " * ";
                case LESS:
                    return " < ";
                default:
                    return " == ";
            }
        }
    }
}
