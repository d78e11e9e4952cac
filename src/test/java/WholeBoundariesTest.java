import java.math.BigInteger;

/** The boundaries of operations 5 to 9, 25 and 26 (promise 8), sentence by sentence. */
public final class WholeBoundariesTest {
    private static final String GREATEST = "1000000000000000";
    private static final String LEAST = "-1000000000000000";
    private static final String NEXT = "999999999999999";
    private static final BigInteger LIMIT = new BigInteger(GREATEST);
    private static final String[] WHOLES = {
        "0", "1", "-1", "2", "-2", "3", "-3", "7", "-7", "10", "255", "65536", "-65536", "2147483647", "-2147483648",
        "4294967295", "4294967296", "-4294967297", "31622776", "31622777", "-31622777", "100001", "-100001",
        "9999900001", "500000000000000", "-500000000000000", "500000000000001", NEXT, "-" + NEXT, GREATEST, LEAST
    };

    public static void main(String[] args) {
        plus();
        minus();
        times();
        over();
        left();
        againstLargeNumbers();
        byZero();
        numberOfOthers();
        numberOfTexts();
        numberDigits();
        numberBefore();
        numberTags();
        wordsOfWholes();
        wordsOfTexts();
        wordsOfOthers();
        wordsAndBack();
        otherKinds();
        Check.end();
    }

    private static void op(int operation, String want, String... operands) {
        Check.operation(operation, want, operands);
    }

    private static void plus() {
        Check.sentence("Promise 8, 5 a + b", "ERROR beyond what is one");
        op(5, GREATEST, NEXT, "1");
        op(5, GREATEST, "1", NEXT);
        op(5, GREATEST, GREATEST, "0");
        op(5, "error", GREATEST, "1");
        op(5, "error", "1", GREATEST);
        op(5, "error", GREATEST, GREATEST);
        op(5, GREATEST, "500000000000000", "500000000000000");
        op(5, "error", "500000000000001", "500000000000000");
        op(5, LEAST, "-" + NEXT, "-1");
        op(5, LEAST, "0", LEAST);
        op(5, "error", LEAST, "-1");
        op(5, "error", "-1", LEAST);
        op(5, "error", LEAST, LEAST);
        op(5, "0", LEAST, GREATEST);
    }

    private static void minus() {
        Check.sentence("Promise 8, 6 a - b", "ERROR beyond what is one");
        op(6, GREATEST, NEXT, "-1");
        op(6, GREATEST, "0", LEAST);
        op(6, "error", "1", LEAST);
        op(6, "error", GREATEST, "-1");
        op(6, "error", GREATEST, LEAST);
        op(6, LEAST, "-" + NEXT, "1");
        op(6, LEAST, "0", GREATEST);
        op(6, "error", "-1", GREATEST);
        op(6, "error", LEAST, "1");
        op(6, "error", LEAST, GREATEST);
        op(6, "0", GREATEST, GREATEST);
        op(6, "0", LEAST, LEAST);
    }

    private static void times() {
        Check.sentence("Promise 8, 7 a b", "ERROR beyond what is one");
        op(7, GREATEST, "31250000", "32000000");
        op(7, GREATEST, "-31250000", "-32000000");
        op(7, LEAST, "-31250000", "32000000");
        op(7, LEAST, "31250000", "-32000000");
        op(7, NEXT, "999", "1001001001001");
        op(7, "-" + NEXT, "-999", "1001001001001");
        // 100001 times 9999900001 is one more than the greatest WHOLE.
        op(7, "error", "100001", "9999900001");
        op(7, "error", "-100001", "9999900001");
        op(7, "error", "100001", "-9999900001");
        op(7, "error", "-100001", "-9999900001");
        op(7, GREATEST, GREATEST, "1");
        op(7, LEAST, GREATEST, "-1");
        op(7, GREATEST, LEAST, "-1");
        op(7, "error", GREATEST, "2");
        op(7, "error", "-2", GREATEST);
        op(7, "0", "0", LEAST);
        op(7, "0", GREATEST, "0");
        // These products are 0, or a WHOLE again, in a long's 64 bits.
        op(7, "error", "4294967296", "4294967296");
        op(7, "error", "-4294967296", "4294967296");
        op(7, "error", "281474976710656", "65536");
        op(7, "error", "281474976710656", "65537");
        op(7, "error", "281474976710656", "-65536");
        op(7, "error", "562949953421312", "32768");
        op(7, "error", GREATEST, GREATEST);
        op(7, "error", LEAST, LEAST);
        op(7, "error", LEAST, GREATEST);
    }

    private static void over() {
        Check.sentence("Promise 8, 8 a / b", "cut off towards 0");
        op(8, "3", "7", "2");
        op(8, "-3", "-7", "2");
        op(8, "-3", "7", "-2");
        op(8, "3", "-7", "-2");
        op(8, "0", "1", "2");
        op(8, "0", "-1", "2");
        op(8, "0", "1", "-2");
        op(8, "0", "-1", "-2");
        op(8, "0", "0", "-5");
        op(8, "0", NEXT, GREATEST);
        op(8, "0", "-" + NEXT, GREATEST);
        op(8, "1", GREATEST, GREATEST);
        op(8, "-1", GREATEST, LEAST);
        op(8, "1", GREATEST, NEXT);
        op(8, LEAST, GREATEST, "-1");
        op(8, GREATEST, LEAST, "-1");
        op(8, GREATEST, GREATEST, "1");
    }

    private static void left() {
        Check.sentence("Promise 8, 9", "what is left then (with a's sign)");
        op(9, "1", "7", "2");
        op(9, "-1", "-7", "2");
        op(9, "1", "7", "-2");
        op(9, "-1", "-7", "-2");
        op(9, "0", "6", "2");
        op(9, "0", "-6", "2");
        op(9, "0", "0", "-5");
        op(9, "0", GREATEST, "1");
        op(9, "0", LEAST, "-1");
        op(9, "0", GREATEST, LEAST);
        op(9, NEXT, NEXT, GREATEST);
        op(9, "-" + NEXT, "-" + NEXT, LEAST);
        op(9, "1", GREATEST, NEXT);
        op(9, "-1", LEAST, NEXT);
    }

    private static void againstLargeNumbers() {
        Check.sentence("Promise 8, 5 to 9", "of WHOLES; ERROR beyond what is one, and by 0");
        for (String a : WHOLES) {
            for (String b : WHOLES) {
                BigInteger x = new BigInteger(a);
                BigInteger y = new BigInteger(b);
                op(5, shown(x.add(y)), a, b);
                op(6, shown(x.subtract(y)), a, b);
                op(7, shown(x.multiply(y)), a, b);
                op(8, y.signum() == 0 ? "error" : shown(x.divide(y)), a, b);
                op(9, y.signum() == 0 ? "error" : shown(x.remainder(y)), a, b);
            }
        }
    }

    private static String shown(BigInteger v) {
        return v.abs().compareTo(LIMIT) > 0 ? "error" : v.toString();
    }

    private static void byZero() {
        Check.sentence("Promise 8, 8 and 9", "and by 0");
        for (String a : new String[] {"0", "1", "-1", GREATEST, LEAST}) {
            op(8, "error", a, "0");
            op(9, "error", a, "0");
        }
        op(8, "5", "5", "1");
        op(8, "-5", "5", "-1");
        op(9, "0", "5", "1");
        op(9, "0", "5", "-1");
    }

    private static void otherKinds() {
        Check.sentence("Terms", "Where an operand is an ERROR, or of another kind than told, a call is an ERROR");
        String[] others = {"true", "false", "''", "'1'", "'1'a", "#0", "#1", "error", "1/0"};
        for (int operation = 5; operation <= 9; operation++) {
            for (String other : others) {
                op(operation, "error", other, "1");
                op(operation, "error", "1", other);
                op(operation, "error", "0", other);
                op(operation, "error", other, other);
            }
        }
        op(25, "error", "error");
        op(25, "error", "1/0");
        op(26, "error", "error");
        op(26, "error", "1/0");
    }

    private static void numberOfOthers() {
        Check.sentence("Promise 8, 25 NUMBER", "a WHOLE itself; 1 or 0 of a TRUTH");
        for (String whole : WHOLES) {
            op(25, whole, whole);
        }
        op(25, "1", "true");
        op(25, "0", "false");
        Check.sentence("Terms", "of another kind than told, a call is an ERROR");
        op(25, "error", "#0");
        op(25, "error", "#999");
    }

    private static void numberOfTexts() {
        Check.sentence("Promise 8, 25 NUMBER", "that is 1 to 15 digits");
        String digits = "123456789012345678901234";
        for (int length = 0; length <= 24; length++) {
            String some = digits.substring(0, length);
            String nines = "999999999999999999999999".substring(0, length);
            String zeros = "000000000000000000000000".substring(0, length);
            boolean sound = length >= 1 && length <= 15;
            op(25, sound ? some : "error", "'" + some + "'");
            op(25, sound ? nines : "error", "'" + nines + "'");
            op(25, sound ? "0" : "error", "'" + zeros + "'");
            if (length < 24) {
                op(25, sound ? "-" + some : "error", "'-" + some + "'");
                op(25, sound ? "-" + nines : "error", "'-" + nines + "'");
                op(25, sound ? "0" : "error", "'-" + zeros + "'");
            }
        }
        op(25, "1", "'000000000000001'");
        op(25, "error", "'0000000000000001'");
        op(25, "error", "'" + GREATEST + "'");
        op(25, "error", "'" + LEAST + "'");
    }

    private static void numberDigits() {
        Check.sentence("Promise 8, 25 NUMBER", "digits, perhaps with - before them, what it says");
        for (char b = 32; b <= 126; b++) {
            String due = b >= '0' && b <= '9' ? "" + b : null;
            op(25, due == null ? "error" : due, "'" + b + "'");
            op(25, due == null ? "error" : "1" + due, "'1" + b + "'");
            op(25, due == null ? "error" : "1" + due + "2", "'1" + b + "2'");
            op(25, due == null ? "error" : "-1" + due, "'-1" + b + "'");
            String first = due != null ? new BigInteger(due + "1").toString() : b == '-' ? "-1" : "error";
            op(25, first, "'" + b + "1'");
        }
    }

    private static void numberBefore() {
        Check.sentence("Promise 8, 25 NUMBER", "perhaps with - before them");
        op(25, "-5", "'-5'");
        op(25, "5", "'5'");
        op(25, "error", "'-'");
        op(25, "error", "'--5'");
        op(25, "error", "'5-'");
        op(25, "error", "'- 5'");
        op(25, "error", "'+5'");
        op(25, "0", "'-0'");
        op(25, "-7", "'-007'");
        op(25, "error", "''");
    }

    private static void numberTags() {
        Check.sentence("Promise 8, 25 NUMBER", "of a TEXT of tag 0");
        op(25, "5", "'5'");
        op(25, "error", "'5'a");
        op(25, "error", "'5'z");
        op(25, "error", "''a");
        op(25, "error", "'-5'e");
    }

    private static void wordsOfWholes() {
        Check.sentence("Promise 8, 26 WORDS", "a WHOLE's digits (no 0 before others, - before it if it is below 0)");
        for (String whole : WHOLES) {
            op(26, "'" + whole + "'", whole);
        }
        long power = 1;
        for (int digits = 1; digits <= 15; digits++) {
            op(26, "'" + power + "'", Long.toString(power));
            op(26, "'" + -power + "'", Long.toString(-power));
            op(26, "'" + (10 * power - 1) + "'", Long.toString(10 * power - 1));
            op(26, "'" + (1 - 10 * power) + "'", Long.toString(1 - 10 * power));
            power *= 10;
        }
        op(26, "'0'", "0");
    }

    private static void wordsOfTexts() {
        Check.sentence("Promise 8, 26 WORDS", "as a TEXT of tag 0 a TEXT's bytes");
        String longest = "'abcdefghijklmnopqrstuvwx'";
        for (String tag : new String[] {"", "a", "z"}) {
            op(26, "''", "''" + tag);
            op(26, "' '", "' '" + tag);
            op(26, "'007'", "'007'" + tag);
            op(26, longest, longest + tag);
        }
    }

    private static void wordsOfOthers() {
        Check.sentence("Promise 8, 26 WORDS", "true, false, # and the digits of a NODE");
        op(26, "'true'", "true");
        op(26, "'false'", "false");
        for (int node : new int[] {0, 1, 9, 10, 11, 99, 100, 101, 255, 256, 990, 999}) {
            op(26, "'#" + node + "'", "#" + node);
        }
    }

    private static void wordsAndBack() {
        Check.sentence("Promise 8, 25 NUMBER", "what it says");
        for (String whole : WHOLES) {
            FunctionRows x = new FunctionRows();
            int back = x.call(25, x.call(26, Check.make(x, whole), 0, 0), 0, 0);
            boolean sixteen = whole.equals(GREATEST) || whole.equals(LEAST);
            Check.due("NUMBER of WORDS of " + whole, Check.reckoned(x, back), sixteen ? "error" : whole);
        }
    }
}
