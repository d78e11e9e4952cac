import java.math.BigInteger;
import java.util.ArrayList;
import java.util.List;
import java.util.function.BinaryOperator;
import java.util.regex.Pattern;

/**
 * A second reading of the document, as plain as the Java library lets it be: values are objects, IF and ELSE do not
 * look at what they need not, and a pattern becomes one of java.util.regex. Null stands for an ERROR.
 */
final class Model {
    private static final int BAD = -1;
    private static final int NO = -2;
    private static final int FULL = -3;
    private static final BigInteger GREATEST = BigInteger.TEN.pow(15);

    /** A TEXT. The other values are Boolean, BigInteger and, for a NODE, Integer. */
    record Text(String bytes, int tag) {
    }

    /** An expression: a value, a variable, or an operation with operands. */
    record Made(Object value, int variable, int operation, int[] operands) {
    }

    private final List<Made> made = new ArrayList<>();
    private final Object[] row = new Object[8];
    private Object latest;
    private String tape = "";

    long answer(String name, long first, int second, int third, int fourth) {
        int i = (int) first;
        switch (name) {
            case "type": return type(first, second);
            case "text": return text(i);
            case "whole": return whole(first);
            case "leaf": return leaf(i, second);
            case "call": return call(i, second, third, fourth);
            case "takes": return takes(i);
            case "run": return run(i);
            case "number": return number();
            case "tag": return latest instanceof Text t ? t.tag : NO;
            case "letter": return latest instanceof Text t && i >= 0 && i < t.bytes.length() ? t.bytes.charAt(i) : NO;
            case "give": return give(i);
            case "drop": return drop(i);
            case "uses": return exists(i) ? uses(i) : BAD;
            case "depth": return exists(i) ? depth(i) : BAD;
            case "clear": int were = made.size(); made.clear(); return were;
            default: return made.size();
        }
    }

    private int type(long bytes, int n) {
        if (n < 1 || n > 8) {
            return BAD;
        }
        String typed = "";
        for (int i = 0; i < n; i++) {
            int b = (int) (bytes >> 8 * i & 0xFF);
            if (b < 32 || b > 126) {
                return BAD;
            }
            typed = (char) b + typed;
        }
        if (tape.length() + n > 48) {
            return FULL;
        }
        tape += typed;
        return tape.length();
    }

    private int add(Made expression) {
        if (made.size() == 80) {
            return FULL;
        }
        made.add(expression);
        return made.size() - 1;
    }

    private int addValue(Object value) {
        return add(new Made(value, -1, -1, new int[0]));
    }

    private int text(int tag) {
        String bytes = tape;
        tape = "";
        return bytes.length() > 24 || tag < 0 || tag > 26 ? BAD : addValue(new Text(bytes, tag));
    }

    private int whole(long v) {
        Object value = limited(BigInteger.valueOf(v));
        return value == null ? BAD : addValue(value);
    }

    private int leaf(int kind, int v) {
        if (kind == 1 && (v == 0 || v == 1)) {
            return addValue(v == 1);
        }
        if (kind == 4 && v >= 0 && v <= 999) {
            return addValue(v);
        }
        return kind == 0 && v >= 0 && v <= 7 ? add(new Made(null, v, -1, new int[0])) : BAD;
    }

    private int call(int operation, int... all) {
        int taken = takes(operation);
        if (taken < 0) {
            return BAD;
        }
        int[] operands = java.util.Arrays.copyOf(all, taken);
        for (int operand : operands) {
            if (!exists(operand)) {
                return BAD;
            }
        }
        return add(new Made(null, -1, operation, operands));
    }

    private static int takes(int operation) {
        List<Integer> one = List.of(0, 10, 12, 13, 20, 21, 24, 25, 26);
        List<Integer> three = List.of(11, 22, 28, 29);
        if (operation < 0 || operation > 29) {
            return BAD;
        }
        return one.contains(operation) ? 1 : three.contains(operation) ? 3 : 2;
    }

    private boolean exists(int e) {
        return e >= 0 && e < made.size();
    }

    private int run(int e) {
        if (!exists(e)) {
            return BAD;
        }
        latest = reckon(e, new boolean[80], new Object[80]);
        return kind(latest);
    }

    private static int kind(Object v) {
        return v == null ? 0 : v instanceof Boolean ? 1 : v instanceof BigInteger ? 2 : v instanceof Text ? 3 : 4;
    }

    private long number() {
        switch (kind(latest)) {
            case 1: return (Boolean) latest ? 1 : 0;
            case 2: return ((BigInteger) latest).longValueExact();
            case 3: return ((Text) latest).bytes.length();
            case 4: return (Integer) latest;
            default: return NO;
        }
    }

    private int give(int v) {
        if (v < 0 || v > 7) {
            return BAD;
        }
        if (latest == null) {
            return NO;
        }
        row[v] = latest;
        return 1;
    }

    private int drop(int v) {
        if (v < 0 || v > 7) {
            return BAD;
        }
        int gave = row[v] == null ? 0 : 1;
        row[v] = null;
        return gave;
    }

    private int uses(int e) {
        int bits = 0;
        boolean[] in = new boolean[80];
        in[e] = true;
        for (int i = e; i >= 0; i--) {
            if (in[i] && made.get(i).variable >= 0) {
                bits |= 1 << made.get(i).variable;
            }
            for (int operand : made.get(i).operands) {
                in[operand] |= in[i];
            }
        }
        return bits;
    }

    private int depth(int e) {
        int[] deep = new int[80];
        for (int i = 0; i <= e; i++) {
            for (int operand : made.get(i).operands) {
                deep[i] = Math.max(deep[i], deep[operand] + 1);
            }
        }
        return deep[e];
    }

    private Object reckon(int e, boolean[] known, Object[] values) {
        if (!known[e]) {
            Made m = made.get(e);
            values[e] = m.operation < 0 ? m.variable < 0 ? m.value : row[m.variable] : lazily(m, known, values);
            known[e] = true;
        }
        return values[e];
    }

    private Object lazily(Made m, boolean[] known, Object[] values) {
        if (m.operation == 24) {
            int v = made.get(m.operands[0]).variable;
            return v < 0 ? null : row[v] != null;
        }
        Object a = reckon(m.operands[0], known, values);
        if (m.operation == 22) {
            Boolean truth = truth(a);
            return truth == null ? null : reckon(m.operands[truth ? 1 : 2], known, values);
        }
        if (m.operation == 23) {
            return a != null ? a : reckon(m.operands[1], known, values);
        }
        Object b = m.operands.length > 1 ? reckon(m.operands[1], known, values) : "";
        Object c = m.operands.length > 2 ? reckon(m.operands[2], known, values) : "";
        switch (m.operation) {
            case 1: return meet(truth(a), truth(b), false);
            case 2: return meet(truth(a), truth(b), true);
            case 29: return meet(same(a, b), same(a, c), true);
            default: return a == null || b == null || c == null ? null : strictly(m.operation, a, b, c);
        }
    }

    private static Boolean truth(Object v) {
        if (v instanceof Boolean known) {
            return known;
        }
        if (v instanceof BigInteger whole) {
            return !whole.equals(BigInteger.ZERO);
        }
        return v instanceof Text t ? Boolean.valueOf(!t.bytes.isEmpty()) : null;
    }

    /** The strong truth, when one is it; the other one, when both are; else an ERROR. */
    private static Boolean meet(Boolean x, Boolean y, boolean strong) {
        if (x != null && x == strong || y != null && y == strong) {
            return strong;
        }
        return x == null || y == null ? null : Boolean.valueOf(!strong);
    }

    private static Boolean same(Object a, Object b) {
        if (a == null || b == null) {
            return null;
        }
        if (kind(a) == kind(b)) {
            return a.equals(b);
        }
        return kind(a) == 4 || kind(b) == 4 ? Boolean.FALSE : null;
    }

    private static Object limited(BigInteger v) {
        return v.abs().compareTo(GREATEST) > 0 ? null : v;
    }

    private static Object limited(String bytes, int tag) {
        return bytes.length() > 24 ? null : new Text(bytes, tag);
    }

    private static Object strictly(int operation, Object a, Object b, Object c) {
        switch (operation) {
            case 0: return truth(a) == null ? null : !truth(a);
            case 3: return same(a, b);
            case 4: return less(a, b);
            case 5: return wholes(a, b, BigInteger::add);
            case 6: return wholes(a, b, BigInteger::subtract);
            case 7: return wholes(a, b, BigInteger::multiply);
            case 8: return BigInteger.ZERO.equals(b) ? null : wholes(a, b, BigInteger::divide);
            case 9: return BigInteger.ZERO.equals(b) ? null : wholes(a, b, BigInteger::remainder);
            case 21: return BigInteger.valueOf(kind(a));
            case 25: return number(a);
            case 26: return new Text(a instanceof Text t ? t.bytes : (a instanceof Integer ? "#" : "") + a, 0);
            default: return a instanceof Text t ? ofText(operation, t, b, c) : null;
        }
    }

    private static Boolean less(Object a, Object b) {
        if (a instanceof BigInteger x && b instanceof BigInteger y) {
            return x.compareTo(y) < 0;
        }
        if (a instanceof Boolean x && b instanceof Boolean y) {
            return !x && y;
        }
        return a instanceof Text x && b instanceof Text y && x.tag == y.tag
            ? Boolean.valueOf(x.bytes.compareTo(y.bytes) < 0) : null;
    }

    private static Object wholes(Object a, Object b, BinaryOperator<BigInteger> reckoned) {
        return a instanceof BigInteger x && b instanceof BigInteger y ? limited(reckoned.apply(x, y)) : null;
    }

    private static Object number(Object a) {
        if (a instanceof Boolean known) {
            return known ? BigInteger.ONE : BigInteger.ZERO;
        }
        if (a instanceof Text t) {
            return t.tag == 0 && t.bytes.matches("-?[0-9]{1,15}") ? new BigInteger(t.bytes) : null;
        }
        return a instanceof BigInteger ? a : null;
    }

    private static Object ofText(int operation, Text a, Object b, Object c) {
        switch (operation) {
            case 10: return BigInteger.valueOf(a.bytes.length());
            case 11: return b instanceof BigInteger from && c instanceof BigInteger most ? part(a, from, most) : null;
            case 12: return new Text(a.bytes.toUpperCase(java.util.Locale.ROOT), a.tag);
            case 13: return new Text(a.bytes.toLowerCase(java.util.Locale.ROOT), a.tag);
            case 20: return new Text(a.tag == 0 ? "" : "" + (char) (96 + a.tag), 0);
            default: return b instanceof Text t ? ofTexts(operation, a, t, c) : null;
        }
    }

    private static Text part(Text a, BigInteger from, BigInteger most) {
        StringBuilder taken = new StringBuilder();
        for (int i = 0; i < a.bytes.length(); i++) {
            BigInteger way = BigInteger.valueOf(i + 1).subtract(from);
            if (way.signum() >= 0 && way.compareTo(most) < 0) {
                taken.append(a.bytes.charAt(i));
            }
        }
        return new Text(taken.toString(), a.tag);
    }

    private static Object ofTexts(int operation, Text a, Text b, Object c) {
        if (operation == 14) {
            return limited(a.bytes + b.bytes, a.tag == b.tag ? a.tag : 0);
        }
        if (operation == 27) {
            return b.tag == 0 ? goes(a.bytes, b.bytes) : null;
        }
        if (operation == 28) {
            boolean told = c instanceof Text t && b.tag == 0 && t.tag == 0 && !b.bytes.isEmpty();
            return told ? limited(a.bytes.replace(b.bytes, ((Text) c).bytes), a.tag) : null;
        }
        if (b.tag != 0 && b.tag != a.tag) {
            return null;
        }
        int place = a.bytes.indexOf(b.bytes);
        switch (operation) {
            case 15: return place >= 0;
            case 16: return a.bytes.startsWith(b.bytes);
            case 17: return a.bytes.endsWith(b.bytes);
            case 18: return place < 0 ? new Text("", 0) : new Text(a.bytes.substring(0, place), a.tag);
            default: return place < 0 ? new Text("", 0) : new Text(a.bytes.substring(place + b.bytes.length()), a.tag);
        }
    }

    static Boolean goes(String text, String pattern) {
        Grammar grammar = new Grammar(pattern);
        boolean sound = grammar.alternatives() && grammar.at == pattern.length();
        return sound ? Boolean.valueOf(Pattern.compile(grammar.regex.toString()).matcher(text).find()) : null;
    }

    /** The document's grammar, rule by rule, writing the pattern as java.util.regex wants it. */
    private static final class Grammar {
        private final String pattern;
        private final StringBuilder regex = new StringBuilder();
        private int at;

        Grammar(String pattern) {
            this.pattern = pattern;
        }

        private boolean sees(String bytes) {
            return at < pattern.length() && bytes.indexOf(pattern.charAt(at)) >= 0;
        }

        private boolean skips(String bytes) {
            boolean seen = sees(bytes);
            at += seen ? 1 : 0;
            return seen;
        }

        private void write(char b) {
            regex.append(String.format("\\x%02x", (int) b));
        }

        boolean alternatives() {
            do {
                while (at < pattern.length() && !sees("|)")) {
                    if (!piece()) {
                        return false;
                    }
                }
                regex.append(sees("|") ? "|" : "");
            } while (skips("|"));
            return true;
        }

        private boolean piece() {
            if (skips("^")) {
                regex.append("\\A");
                return true;
            }
            if (skips("$")) {
                regex.append("\\z");
                return true;
            }
            if (!atom()) {
                return false;
            }
            if (sees("*+?")) {
                regex.append(pattern.charAt(at));
                at++;
            }
            return true;
        }

        private boolean atom() {
            if (skips("(")) {
                regex.append("(?:");
                boolean inside = alternatives();
                regex.append(')');
                return inside && skips(")");
            }
            if (skips("[")) {
                return items();
            }
            if (skips(".")) {
                regex.append('.');
                return true;
            }
            boolean escaped = skips("\\");
            if (at == pattern.length() || !escaped && sees(")]*+?")) {
                return false;
            }
            write(pattern.charAt(at));
            at++;
            return true;
        }

        private boolean items() {
            regex.append(skips("^") ? "[^" : "[");
            int before = at;
            while (at < pattern.length() && !sees("]^-\\")) {
                char low = pattern.charAt(at);
                char high = low;
                at++;
                if (skips("-")) {
                    if (at == pattern.length() || sees("]^-\\") || pattern.charAt(at) < low) {
                        return false;
                    }
                    high = pattern.charAt(at);
                    at++;
                }
                write(low);
                regex.append('-');
                write(high);
            }
            regex.append(']');
            return at > before && skips("]");
        }
    }
}
