/**
 * Expressions over a row of values: numbers, truths, texts with tags, nodes; functions with errors
 * as told, truths of three kinds, patterns, casts; what is the same in all rows.
 */
public final class FunctionRows {
    public static final int BAD = -1;
    public static final int NO = -2;
    public static final int FULL = -3;

    private static final int ERROR = 0;
    private static final int TRUTH = 1;
    private static final int WHOLE = 2;
    private static final int TEXT = 3;
    private static final int NODE = 4;
    private static final int VARIABLE = 0;

    private static final int FALSE = 0;
    private static final int TRUE = 1;
    private static final int UNKNOWN = -1;

    private static final int MOST_EXPRESSIONS = 80;
    private static final int MOST_TAPED = 48;
    private static final int MOST_BYTES = 24;
    private static final int VARIABLES = 8;
    private static final int LETTERS = 26;
    private static final int LAST_TAG = LETTERS;
    private static final int LAST_NODE = 999;
    private static final int LOWEST_BYTE = 32;
    private static final int HIGHEST_BYTE = 126;
    private static final int BYTES_OF_LONG = 8;
    private static final long GREATEST_WHOLE = 1_000_000_000_000_000L;

    private static final int NOT = 0;
    private static final int AND = 1;
    private static final int OR = 2;
    private static final int SAME = 3;
    private static final int LESS = 4;
    private static final int PLUS = 5;
    private static final int MINUS = 6;
    private static final int TIMES = 7;
    private static final int OVER = 8;
    private static final int LEFT = 9;
    private static final int LENGTH = 10;
    private static final int PART = 11;
    private static final int GREAT = 12;
    private static final int SMALL = 13;
    private static final int JOINED = 14;
    private static final int HAS = 15;
    private static final int BEGINS = 16;
    private static final int ENDS = 17;
    private static final int BEFORE = 18;
    private static final int BEHIND = 19;
    private static final int TAG = 20;
    private static final int KIND = 21;
    private static final int IF = 22;
    private static final int ELSE = 23;
    private static final int GIVEN = 24;
    private static final int NUMBER = 25;
    private static final int WORDS = 26;
    private static final int GOES = 27;
    private static final int TURNED = 28;
    private static final int IN = 29;

    private static final int[] TAKEN = {
        1, 2, 2, 2, 2, 2, 2, 2, 2, 2,
        1, 3, 1, 1, 2, 2, 2, 2, 2, 2,
        1, 1, 3, 2, 1, 1, 1, 2, 3, 3
    };

    private final Expression[] expressions = new Expression[MOST_EXPRESSIONS];
    private int count;
    // A variable to which the row gives nothing holds an ERROR, which no variable can be given.
    private final Value[] row = new Value[VARIABLES];
    private final Value latest = new Value();
    private final byte[] tape = new byte[MOST_TAPED];
    private int taped;
    private final Search search = new Search();

    public FunctionRows() {
        for (int i = 0; i < MOST_EXPRESSIONS; i++) {
            expressions[i] = new Expression();
        }
        for (int i = 0; i < VARIABLES; i++) {
            row[i] = new Value();
        }
    }

    public int type(long bytes, int n) {
        if (n < 1 || n > BYTES_OF_LONG) {
            return BAD;
        }
        for (int i = 0; i < n; i++) {
            int b = byteOf(bytes, i);
            if (b < LOWEST_BYTE || b > HIGHEST_BYTE) {
                return BAD;
            }
        }
        if (taped + n > MOST_TAPED) {
            return FULL;
        }
        for (int i = n - 1; i >= 0; i--) {
            tape[taped] = (byte) byteOf(bytes, i);
            taped++;
        }
        return taped;
    }

    public int text(int tag) {
        int length = taped;
        taped = 0;
        if (length > MOST_BYTES || tag < 0 || tag > LAST_TAG) {
            return BAD;
        }
        if (count >= MOST_EXPRESSIONS) {
            return FULL;
        }
        Value value = expressions[count].becomeValue();
        value.startText(tag);
        for (int i = 0; i < length; i++) {
            value.append(tape[i]);
        }
        return count++;
    }

    public int whole(long v) {
        if (!isWhole(v)) {
            return BAD;
        }
        if (count >= MOST_EXPRESSIONS) {
            return FULL;
        }
        expressions[count].becomeValue().setWhole(v);
        return count++;
    }

    public int leaf(int kind, int v) {
        if (v < 0 || v > lastLeaf(kind)) {
            return BAD;
        }
        if (count >= MOST_EXPRESSIONS) {
            return FULL;
        }
        Expression made = expressions[count];
        if (kind == VARIABLE) {
            made.becomeVariable(v, row[v]);
        } else if (kind == TRUTH) {
            made.becomeValue().setTruth(v);
        } else {
            made.becomeValue().setNode(v);
        }
        return count++;
    }

    public int call(int operation, int a, int b, int c) {
        int taken = takes(operation);
        if (taken == BAD) {
            return BAD;
        }
        // An operand that is not taken stands for a once more, so that all three are always there.
        int second = taken > 1 ? b : a;
        int third = taken > 2 ? c : a;
        if (!isExpression(a) || !isExpression(second) || !isExpression(third)) {
            return BAD;
        }
        if (count >= MOST_EXPRESSIONS) {
            return FULL;
        }
        expressions[count].becomeCall(operation, expressions[a], expressions[second], expressions[third]);
        return count++;
    }

    public int takes(int operation) {
        if (operation < 0 || operation >= TAKEN.length) {
            return BAD;
        }
        return TAKEN[operation];
    }

    public int run(int e) {
        if (!isExpression(e)) {
            return BAD;
        }
        // Operands are earlier than their call: one way down finds what is needed, one way up
        // reckons each of it once, however often it is used. No operation does anything but answer,
        // so that what IF and ELSE do not look at may be reckoned too.
        for (int i = 0; i < e; i++) {
            expressions[i].wanted = false;
        }
        expressions[e].wanted = true;
        for (int i = e; i >= 0; i--) {
            if (expressions[i].wanted) {
                expressions[i].wantOperands();
            }
        }
        for (int i = 0; i <= e; i++) {
            if (expressions[i].wanted && expressions[i].isCall()) {
                reckon(expressions[i]);
            }
        }
        latest.copy(expressions[e].value);
        return latest.kind;
    }

    public long number() {
        if (latest.kind == ERROR) {
            return NO;
        }
        return latest.kind == TEXT ? latest.length : latest.amount;
    }

    public int tag() {
        return latest.kind == TEXT ? latest.mark : NO;
    }

    public int letter(int i) {
        if (latest.kind != TEXT || i < 0 || i >= latest.length) {
            return NO;
        }
        return latest.at(i);
    }

    public int give(int variable) {
        if (!isVariable(variable)) {
            return BAD;
        }
        if (latest.kind == ERROR) {
            return NO;
        }
        row[variable].copy(latest);
        return 1;
    }

    public int drop(int variable) {
        if (!isVariable(variable)) {
            return BAD;
        }
        if (row[variable].kind == ERROR) {
            return 0;
        }
        row[variable].setError();
        return 1;
    }

    public int uses(int e) {
        return isExpression(e) ? expressions[e].variables : BAD;
    }

    public int depth(int e) {
        return isExpression(e) ? expressions[e].levels : BAD;
    }

    public int clear() {
        int were = count;
        count = 0;
        return were;
    }

    public int size() {
        return count;
    }

    private boolean isExpression(int e) {
        return e >= 0 && e < count;
    }

    private static boolean isVariable(int v) {
        return v >= 0 && v < VARIABLES;
    }

    private static boolean isWhole(long v) {
        return v >= -GREATEST_WHOLE && v <= GREATEST_WHOLE;
    }

    private static int byteOf(long bytes, int i) {
        return (int) (bytes >>> (8 * i)) & 255;
    }

    /** The greatest number of a leaf of that kind; below all numbers for a kind that is no leaf's. */
    private static int lastLeaf(int kind) {
        if (kind == VARIABLE) {
            return VARIABLES - 1;
        }
        if (kind == TRUTH) {
            return TRUE;
        }
        return kind == NODE ? LAST_NODE : -1;
    }

    private void reckon(Expression e) {
        Value a = e.a.value;
        Value b = e.b.value;
        Value c = e.c.value;
        if (e.operation == GIVEN) {
            e.value.setTruth(e.a.given());
        } else if (e.operation == GOES) {
            e.value.setTruth(search.goes(a, b));
        } else if (e.operation >= PLUS && e.operation <= LEFT) {
            Wholes.reckon(e.operation, e.value, a, b);
        } else if (e.operation >= LENGTH && e.operation <= TAG || e.operation == TURNED) {
            Texts.reckon(e.operation, e.value, a, b, c);
        } else if (e.operation >= KIND && e.operation <= WORDS) {
            Casts.reckon(e.operation, e.value, a, b, c);
        } else {
            e.value.setTruth(Truths.reckon(e.operation, a, b, c));
        }
    }

    /** A value whose room is used again and again: each of its kinds is set in place. */
    private static final class Value {
        int kind;
        long amount;
        int mark;
        int length;
        private final byte[] bytes = new byte[MOST_BYTES];

        void setError() {
            kind = ERROR;
        }

        /** UNKNOWN, the third truth, is an ERROR. */
        void setTruth(int truth) {
            kind = truth == UNKNOWN ? ERROR : TRUTH;
            amount = truth;
        }

        /** An ERROR beyond what is a WHOLE. */
        void setWhole(long v) {
            kind = isWhole(v) ? WHOLE : ERROR;
            amount = v;
        }

        void setNode(int v) {
            kind = NODE;
            amount = v;
        }

        void startText(int tag) {
            kind = TEXT;
            mark = tag;
            length = 0;
        }

        /** An ERROR when there is no more room, and from then on. */
        void append(int b) {
            if (kind != TEXT) {
                return;
            }
            if (length >= MOST_BYTES) {
                kind = ERROR;
                return;
            }
            bytes[length] = (byte) b;
            length++;
        }

        void appendPart(Value other, int start, int end) {
            int last = Math.min(end, other.length);
            for (int i = Math.max(start, 0); i < last; i++) {
                append(other.at(i));
            }
        }

        void appendDigits(long v) {
            long unit = 1;
            for (int i = 0; i < 15 && v / unit >= 10; i++) {
                unit *= 10;
            }
            for (int i = 0; i < 16 && unit > 0; i++) {
                append('0' + (int) (v / unit % 10));
                unit /= 10;
            }
        }

        /** 0, which is no text's byte, where there is none. */
        int at(int i) {
            return i >= 0 && i < length && i < MOST_BYTES ? bytes[i] : 0;
        }

        void copy(Value other) {
            kind = other.kind;
            amount = other.amount;
            mark = other.mark;
            length = 0;
            if (kind == TEXT) {
                appendPart(other, 0, other.length);
            }
        }

        boolean hasAt(int place, Value other) {
            if (place < 0 || place + other.length > length) {
                return false;
            }
            for (int i = 0; i < other.length; i++) {
                if (at(place + i) != other.at(i)) {
                    return false;
                }
            }
            return true;
        }

        /** The first place of the other text, or -1. */
        int find(Value other) {
            for (int i = 0; i <= length - other.length; i++) {
                if (hasAt(i, other)) {
                    return i;
                }
            }
            return -1;
        }
    }

    private static final class Expression {
        private static final int OF_VALUE = 0;
        private static final int OF_VARIABLE = 1;
        private static final int OF_CALL = 2;

        private final Value own = new Value();
        private int form;
        // Its own value, or for a variable the row's, which may change at any time.
        Value value = own;
        int operation;
        Expression a;
        Expression b;
        Expression c;
        int variables;
        int levels;
        boolean wanted;

        Value becomeValue() {
            form = OF_VALUE;
            value = own;
            variables = 0;
            levels = 0;
            return own;
        }

        void becomeVariable(int variable, Value ofRow) {
            form = OF_VARIABLE;
            value = ofRow;
            variables = 1 << variable;
            levels = 0;
        }

        void becomeCall(int number, Expression first, Expression second, Expression third) {
            form = OF_CALL;
            value = own;
            operation = number;
            a = first;
            b = second;
            c = third;
            variables = first.variables | second.variables | third.variables;
            levels = 1 + Math.max(first.levels, Math.max(second.levels, third.levels));
        }

        boolean isCall() {
            return form == OF_CALL && a != null && b != null && c != null;
        }

        void wantOperands() {
            if (isCall()) {
                a.wanted = true;
                b.wanted = true;
                c.wanted = true;
            }
        }

        int given() {
            return form == OF_VARIABLE ? Truths.truth(value.kind != ERROR) : UNKNOWN;
        }
    }

    /** Operations that answer a truth of three kinds: FALSE, TRUE, UNKNOWN. */
    private static final class Truths {
        static int reckon(int operation, Value a, Value b, Value c) {
            switch (operation) {
                case NOT:
                    return other(of(a));
                case AND:
                    return both(of(a), of(b));
                case OR:
                    return either(of(a), of(b));
                case SAME:
                    return same(a, b);
                case LESS:
                    return less(a, b);
                case IN:
                    return either(same(a, b), same(a, c));
                default:
                    return UNKNOWN;
            }
        }

        static int of(Value v) {
            switch (v.kind) {
                case TRUTH:
                case WHOLE:
                    return truth(v.amount != 0);
                case TEXT:
                    return truth(v.length > 0);
                default:
                    return UNKNOWN;
            }
        }

        static int truth(boolean known) {
            return known ? TRUE : FALSE;
        }

        private static int other(int x) {
            return x == UNKNOWN ? UNKNOWN : TRUE - x;
        }

        private static int both(int x, int y) {
            if (x == FALSE || y == FALSE) {
                return FALSE;
            }
            return x == TRUE && y == TRUE ? TRUE : UNKNOWN;
        }

        private static int either(int x, int y) {
            if (x == TRUE || y == TRUE) {
                return TRUE;
            }
            return x == FALSE && y == FALSE ? FALSE : UNKNOWN;
        }

        private static int same(Value a, Value b) {
            if (a.kind == ERROR || b.kind == ERROR) {
                return UNKNOWN;
            }
            if (a.kind != b.kind) {
                return a.kind == NODE || b.kind == NODE ? FALSE : UNKNOWN;
            }
            if (a.kind == TEXT) {
                return truth(a.mark == b.mark && a.length == b.length && a.hasAt(0, b));
            }
            return truth(a.amount == b.amount);
        }

        private static int less(Value a, Value b) {
            if (a.kind != b.kind) {
                return UNKNOWN;
            }
            if (a.kind == WHOLE || a.kind == TRUTH) {
                return truth(a.amount < b.amount);
            }
            return a.kind == TEXT && a.mark == b.mark ? truth(isBefore(a, b)) : UNKNOWN;
        }

        /** The place behind a text's end counts as 0, below all bytes: a beginning comes first. */
        private static boolean isBefore(Value a, Value b) {
            for (int i = 0; i < b.length; i++) {
                if (a.at(i) != b.at(i)) {
                    return a.at(i) < b.at(i);
                }
            }
            return false;
        }
    }

    private static final class Wholes {
        static void reckon(int operation, Value out, Value a, Value b) {
            if (a.kind != WHOLE || b.kind != WHOLE) {
                out.setError();
                return;
            }
            switch (operation) {
                case PLUS:
                    out.setWhole(a.amount + b.amount);
                    break;
                case MINUS:
                    out.setWhole(a.amount - b.amount);
                    break;
                case TIMES:
                    multiply(out, a.amount, b.amount);
                    break;
                default:
                    divide(operation, out, a.amount, b.amount);
                    break;
            }
        }

        /** A product of two wholes may be beyond a long too, so its size is looked at first. */
        private static void multiply(Value out, long a, long b) {
            long size = Math.abs(a);
            if (size != 0 && Math.abs(b) > GREATEST_WHOLE / size) {
                out.setError();
            } else {
                out.setWhole(a * b);
            }
        }

        private static void divide(int operation, Value out, long a, long b) {
            if (b == 0) {
                out.setError();
            } else {
                out.setWhole(operation == OVER ? a / b : a % b);
            }
        }
    }

    private static final class Texts {
        static void reckon(int operation, Value out, Value a, Value b, Value c) {
            if (a.kind != TEXT) {
                out.setError();
                return;
            }
            switch (operation) {
                case LENGTH:
                    out.setWhole(a.length);
                    break;
                case PART:
                    part(out, a, b, c);
                    break;
                case GREAT:
                    resize(out, a, 'a', 'A' - 'a');
                    break;
                case SMALL:
                    resize(out, a, 'A', 'a' - 'A');
                    break;
                case JOINED:
                    join(out, a, b);
                    break;
                case TAG:
                    tagLetter(out, a);
                    break;
                case TURNED:
                    turn(out, a, b, c);
                    break;
                default:
                    seek(operation, out, a, b);
                    break;
            }
        }

        private static void part(Value out, Value a, Value b, Value c) {
            if (b.kind != WHOLE || c.kind != WHOLE) {
                out.setError();
                return;
            }
            long start = Math.max(b.amount, 1) - 1;
            long end = Math.min(b.amount - 1 + c.amount, a.length);
            out.startText(a.mark);
            if (start < end) {
                out.appendPart(a, (int) start, (int) end);
            }
        }

        private static void resize(Value out, Value a, char first, int step) {
            out.startText(a.mark);
            for (int i = 0; i < a.length; i++) {
                int b = a.at(i);
                out.append(b >= first && b < first + LETTERS ? b + step : b);
            }
        }

        private static void join(Value out, Value a, Value b) {
            if (b.kind != TEXT) {
                out.setError();
                return;
            }
            out.startText(a.mark == b.mark ? a.mark : 0);
            out.appendPart(a, 0, a.length);
            out.appendPart(b, 0, b.length);
        }

        private static void tagLetter(Value out, Value a) {
            out.startText(0);
            if (a.mark != 0) {
                out.append('a' - 1 + a.mark);
            }
        }

        private static void seek(int operation, Value out, Value a, Value b) {
            if (b.kind != TEXT || b.mark != 0 && b.mark != a.mark) {
                out.setError();
                return;
            }
            int place = a.find(b);
            switch (operation) {
                case HAS:
                    out.setTruth(Truths.truth(place >= 0));
                    break;
                case BEGINS:
                    out.setTruth(Truths.truth(place == 0));
                    break;
                case ENDS:
                    out.setTruth(Truths.truth(a.hasAt(a.length - b.length, b)));
                    break;
                default:
                    split(operation, out, a, place, b.length);
                    break;
            }
        }

        private static void split(int operation, Value out, Value a, int place, int width) {
            if (place < 0) {
                out.startText(0);
                return;
            }
            out.startText(a.mark);
            if (operation == BEFORE) {
                out.appendPart(a, 0, place);
            } else {
                out.appendPart(a, place + width, a.length);
            }
        }

        private static void turn(Value out, Value a, Value b, Value c) {
            if (!isPlain(b) || !isPlain(c) || b.length == 0) {
                out.setError();
                return;
            }
            out.startText(a.mark);
            int behind = 0;
            for (int i = 0; i < a.length; i++) {
                if (i < behind) {
                    continue;
                }
                if (a.hasAt(i, b)) {
                    out.appendPart(c, 0, c.length);
                    behind = i + b.length;
                } else {
                    out.append(a.at(i));
                }
            }
        }

        static boolean isPlain(Value v) {
            return v.kind == TEXT && v.mark == 0;
        }
    }

    /** KIND, IF, ELSE, NUMBER, WORDS: operations on values of any kind. */
    private static final class Casts {
        private static final int MOST_DIGITS = 15;

        static void reckon(int operation, Value out, Value a, Value b, Value c) {
            if (operation == ELSE) {
                out.copy(a.kind != ERROR ? a : b);
            } else if (operation == IF) {
                choose(out, Truths.of(a), b, c);
            } else if (a.kind == ERROR) {
                out.setError();
            } else if (operation == KIND) {
                out.setWhole(a.kind);
            } else if (operation == NUMBER) {
                toNumber(out, a);
            } else {
                toWords(out, a);
            }
        }

        private static void choose(Value out, int truth, Value b, Value c) {
            if (truth == UNKNOWN) {
                out.setError();
            } else {
                out.copy(truth == TRUE ? b : c);
            }
        }

        private static void toNumber(Value out, Value a) {
            if (a.kind == WHOLE || a.kind == TRUTH) {
                out.setWhole(a.amount);
            } else if (Texts.isPlain(a)) {
                readDigits(out, a);
            } else {
                out.setError();
            }
        }

        private static void readDigits(Value out, Value a) {
            boolean below = a.at(0) == '-';
            int start = below ? 1 : 0;
            int digits = a.length - start;
            boolean sound = digits >= 1 && digits <= MOST_DIGITS;
            long v = 0;
            for (int i = start; sound && i < a.length; i++) {
                sound = a.at(i) >= '0' && a.at(i) <= '9';
                v = v * 10 + a.at(i) - '0';
            }
            if (sound) {
                out.setWhole(below ? -v : v);
            } else {
                out.setError();
            }
        }

        private static void toWords(Value out, Value a) {
            out.startText(0);
            if (a.kind == TEXT) {
                out.appendPart(a, 0, a.length);
            } else if (a.kind == TRUTH) {
                appendWord(out, a.amount == TRUE ? "true" : "false");
            } else {
                if (a.kind == NODE) {
                    out.append('#');
                } else if (a.amount < 0) {
                    out.append('-');
                }
                out.appendDigits(Math.abs(a.amount));
            }
        }

        private static void appendWord(Value out, String word) {
            for (int i = 0; i < word.length(); i++) {
                out.append(word.charAt(i));
            }
        }
    }

    /**
     * Whether some part of a text goes with a pattern. The pattern becomes states with ways between
     * them; each state holds as bits the places of the text at which it can be reached. A way leads
     * from the places in its mask to the same places, or (moving 1) to the next ones.
     */
    private static final class Search {
        private static final int START = 0;
        private static final int END = 1;
        private static final int STAYS = 0;
        private static final int MOVES = 1;
        private static final int NONE = -1;
        private static final int EVERYWHERE = -1;
        // A byte of a pattern makes at most two states and two ways: 24 bytes stay below 64.
        private static final int MOST_STATES = 64;
        private static final int MOST_WAYS = 64;
        private static final int MOST_ROUNDS = MOST_STATES * (MOST_BYTES + 1);

        private final int[] reached = new int[MOST_STATES];
        private int states;
        private final int[] from = new int[MOST_WAYS];
        private final int[] to = new int[MOST_WAYS];
        private final int[] mask = new int[MOST_WAYS];
        private final int[] moving = new int[MOST_WAYS];
        private int ways;
        private final int[] outerFirst = new int[MOST_BYTES];
        private final int[] outerLast = new int[MOST_BYTES];
        private int open;
        // The states where the innermost open alternatives begin and end, and where reading stands.
        private int first;
        private int last;
        private int current;
        private int place;

        /** FALSE, TRUE, or UNKNOWN where an operand is no such text, or no pattern. */
        int goes(Value text, Value pattern) {
            if (text.kind != TEXT || !Texts.isPlain(pattern)) {
                return UNKNOWN;
            }
            begin();
            boolean sound = true;
            for (int i = 0; i < pattern.length && sound && place < pattern.length; i++) {
                sound = read(text, pattern);
            }
            if (!sound || open > 0) {
                return UNKNOWN;
            }
            connect(current, last, EVERYWHERE, STAYS);
            spread(text);
            return Truths.truth(reached[END] != 0);
        }

        private void begin() {
            states = 0;
            ways = 0;
            open = 0;
            place = 0;
            first = newState();
            last = newState();
            current = first;
        }

        /** Reads what stands at the place, at least one byte: whether it can stand there. */
        private boolean read(Value text, Value pattern) {
            int b = pattern.at(place);
            place++;
            switch (b) {
                case '(':
                    return openGroup();
                case ')':
                    return closeGroup(pattern);
                case '|':
                    connect(current, last, EVERYWHERE, STAYS);
                    current = first;
                    return true;
                case '^':
                    return anchor(1);
                case '$':
                    return anchor(1 << text.length);
                case '.':
                    return atom(placesOf(text, LOWEST_BYTE, HIGHEST_BYTE), pattern);
                case '[':
                    return atom(readItems(text, pattern), pattern);
                case '\\':
                    return atom(readEscaped(text, pattern), pattern);
                case ']':
                case '*':
                case '+':
                case '?':
                    return false;
                default:
                    return atom(placesOf(text, b, b), pattern);
            }
        }

        private boolean openGroup() {
            if (open >= MOST_BYTES) {
                return false;
            }
            outerFirst[open] = first;
            outerLast[open] = last;
            open++;
            first = enter();
            last = newState();
            current = first;
            return true;
        }

        private boolean closeGroup(Value pattern) {
            if (open <= 0) {
                return false;
            }
            connect(current, last, EVERYWHERE, STAYS);
            repeat(first, last, pattern);
            open--;
            first = outerFirst[open];
            last = outerLast[open];
            return true;
        }

        private boolean anchor(int places) {
            int target = newState();
            connect(current, target, places, STAYS);
            current = target;
            return true;
        }

        private boolean atom(int places, Value pattern) {
            if (places == NONE) {
                return false;
            }
            int entry = enter();
            int target = newState();
            connect(entry, target, places, MOVES);
            repeat(entry, target, pattern);
            return true;
        }

        /** A state of its own for each atom, so that * and + lead back to nothing but the atom. */
        private int enter() {
            int entry = newState();
            connect(current, entry, EVERYWHERE, STAYS);
            return entry;
        }

        private void repeat(int entry, int target, Value pattern) {
            int b = pattern.at(place);
            current = b == '*' ? entry : target;
            if (b == '*' || b == '+') {
                connect(target, entry, EVERYWHERE, STAYS);
                place++;
            } else if (b == '?') {
                connect(entry, target, EVERYWHERE, STAYS);
                place++;
            }
        }

        private int readEscaped(Value text, Value pattern) {
            if (place >= pattern.length) {
                return NONE;
            }
            int b = pattern.at(place);
            place++;
            return placesOf(text, b, b);
        }

        private int readItems(Value text, Value pattern) {
            boolean others = pattern.at(place) == '^';
            if (others) {
                place++;
            }
            int places = 0;
            int items = 0;
            for (int i = 0; i < pattern.length && pattern.at(place) != ']'; i++) {
                int low = pattern.at(place);
                boolean wide = pattern.at(place + 1) == '-';
                int high = wide ? pattern.at(place + 2) : low;
                if (!isItem(low) || !isItem(high) || low > high) {
                    return NONE;
                }
                places |= placesOf(text, low, high);
                place += wide ? 3 : 1;
                items++;
            }
            if (items == 0 || pattern.at(place) != ']') {
                return NONE;
            }
            place++;
            return others ? placesOf(text, LOWEST_BYTE, HIGHEST_BYTE) & ~places : places;
        }

        /** Behind the pattern's end there is 0, which is no item. */
        private static boolean isItem(int b) {
            return b != 0 && b != '^' && b != ']' && b != '-' && b != '\\';
        }

        private static int placesOf(Value text, int low, int high) {
            int places = 0;
            for (int i = 0; i < text.length; i++) {
                int b = text.at(i);
                if (b >= low && b <= high) {
                    places |= 1 << i;
                }
            }
            return places;
        }

        private int newState() {
            int state = Math.min(states, MOST_STATES - 1);
            reached[state] = 0;
            states = state + 1;
            return state;
        }

        private void connect(int start, int target, int places, int step) {
            if (ways >= MOST_WAYS) {
                return;
            }
            from[ways] = start;
            to[ways] = target;
            mask[ways] = places;
            moving[ways] = step;
            ways++;
        }

        /** A part may begin at each place; each round but the last one reaches something new. */
        private void spread(Value text) {
            reached[START] = (1 << (text.length + 1)) - 1;
            boolean grows = true;
            for (int round = 0; round < MOST_ROUNDS && grows; round++) {
                grows = false;
                for (int i = 0; i < ways; i++) {
                    int places = (reached[from[i]] & mask[i]) << moving[i];
                    if ((places & ~reached[to[i]]) != 0) {
                        reached[to[i]] |= places;
                        grows = true;
                    }
                }
            }
        }
    }
}
