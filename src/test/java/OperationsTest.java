/** Promise 8, operation by operation: each on ordinary values, at its edges and on wrong kinds. */
public final class OperationsTest {
    private static final String ONE_OF_EACH[] = {"true", "5", "'ab'", "#5"};
    private static final String GREATEST = "1000000000000000";
    private static final String TWENTY_FOUR = "abcdefghijklmnopqrstuvwx";

    public static void main(String[] args) {
        errorsAsOperands();
        wrongKinds();
        truths();
        same();
        less();
        wholes();
        lengthAndPart();
        sizes();
        joined();
        seeking();
        splitting();
        tagAndKind();
        choices();
        given();
        number();
        words();
        turned();
        in();
        Check.end();
    }

    private static void op(int operation, String want, String... operands) {
        Check.operation(operation, want, operands);
    }

    /** An ERROR in each place of each operation but AND, OR, IF, ELSE, GIVEN, IN, which tell of it. */
    private static void errorsAsOperands() {
        String[][] sound = {
            {"0", "true"}, {"3", "5", "5"}, {"4", "5", "6"}, {"5", "5", "6"}, {"6", "5", "6"}, {"7", "5", "6"},
            {"8", "5", "6"}, {"9", "5", "6"}, {"10", "'a'"}, {"11", "'abc'", "1", "2"}, {"12", "'a'"}, {"13", "'a'"},
            {"14", "'a'", "'b'"}, {"15", "'a'", "'b'"}, {"16", "'a'", "'b'"}, {"17", "'a'", "'b'"},
            {"18", "'a'", "'b'"}, {"19", "'a'", "'b'"}, {"20", "'a'"}, {"21", "'a'"}, {"25", "'1'"}, {"26", "'a'"},
            {"27", "'a'", "'b'"}, {"28", "'a'", "'b'", "'c'"}
        };
        for (String[] call : sound) {
            for (int wrong = 1; wrong < call.length; wrong++) {
                String[] operands = new String[call.length - 1];
                for (int i = 1; i < call.length; i++) {
                    operands[i - 1] = i == wrong ? "error" : call[i];
                }
                op(Integer.parseInt(call[0]), "error", operands);
            }
        }
        op(3, "error", "error", "error");
        op(3, "error", "#5", "error");
        op(3, "error", "error", "#5");
    }

    private static void wrongKinds() {
        for (String value : ONE_OF_EACH) {
            boolean isText = value.startsWith("'");
            boolean isWhole = value.equals("5");
            for (int operation = 5; operation <= 9 && !isWhole; operation++) {
                op(operation, "error", value, "5");
                op(operation, "error", "5", value);
            }
            for (int operation : new int[] {10, 12, 13, 20}) {
                if (!isText) {
                    op(operation, "error", value);
                }
            }
            for (int operation = 14; operation <= 19 && !isText; operation++) {
                op(operation, "error", value, "'a'");
                op(operation, "error", "'a'", value);
            }
            if (!isText) {
                op(11, "error", value, "1", "1");
                op(27, "error", value, "'a'");
                op(27, "error", "'a'", value);
                op(28, "error", value, "'a'", "'b'");
                op(28, "error", "'a'", value, "'b'");
                op(28, "error", "'a'", "'b'", value);
            }
            if (!isWhole) {
                op(11, "error", "'a'", value, "1");
                op(11, "error", "'a'", "1", value);
            }
        }
    }

    private static void truths() {
        String[] values = {"true", "false", "7", "-1", "0", "'x'", "' '", "''", "''k", "#1", "#0", "error"};
        int[] truths = {1, 0, 1, 1, 0, 1, 1, 0, 0, -1, -1, -1};
        String[] shown = {"error", "false", "true"};
        for (int i = 0; i < values.length; i++) {
            int a = truths[i];
            op(0, shown[a < 0 ? 0 : 2 - a], values[i]);
            for (int j = 0; j < values.length; j++) {
                int b = truths[j];
                int both = a == 0 || b == 0 ? 0 : a < 0 || b < 0 ? -1 : 1;
                int either = a == 1 || b == 1 ? 1 : a < 0 || b < 0 ? -1 : 0;
                op(1, shown[both + 1], values[i], values[j]);
                op(2, shown[either + 1], values[i], values[j]);
            }
        }
    }

    private static void same() {
        op(3, "true", "true", "true");
        op(3, "true", "false", "false");
        op(3, "false", "true", "false");
        op(3, "true", "-3", "-3");
        op(3, "false", GREATEST, "-" + GREATEST);
        op(3, "true", "''", "''");
        op(3, "true", "'abc'd", "'abc'd");
        op(3, "false", "'abc'd", "'abc'");
        op(3, "false", "'abc'", "'abcd'");
        op(3, "false", "'abcd'", "'abc'");
        op(3, "false", "'abd'", "'abc'");
        op(3, "true", "#0", "#0");
        op(3, "false", "#0", "#999");
        for (String a : ONE_OF_EACH) {
            for (String b : ONE_OF_EACH) {
                boolean withNode = a.equals("#5") || b.equals("#5");
                op(3, a.equals(b) ? "true" : withNode ? "false" : "error", a, b);
            }
        }
    }

    private static void less() {
        op(4, "true", "-" + GREATEST, GREATEST);
        op(4, "false", GREATEST, "-" + GREATEST);
        op(4, "false", "3", "3");
        op(4, "true", "false", "true");
        op(4, "false", "true", "false");
        op(4, "false", "true", "true");
        op(4, "true", "''", "'a'");
        op(4, "false", "'a'", "''");
        op(4, "false", "''", "''");
        op(4, "true", "'ab'", "'abc'");
        op(4, "false", "'abc'", "'ab'");
        op(4, "false", "'abc'", "'abc'");
        op(4, "true", "'aB'", "'aa'");
        op(4, "false", "'b'", "'aaaa'");
        op(4, "true", "'a~'", "'b'");
        op(4, "true", "'a'c", "'b'c");
        op(4, "error", "'a'c", "'b'd");
        op(4, "error", "'a'", "'b'd");
        op(4, "error", "#1", "#2");
        for (String a : ONE_OF_EACH) {
            for (String b : ONE_OF_EACH) {
                if (!a.equals(b)) {
                    op(4, "error", a, b);
                }
            }
        }
    }

    private static void wholes() {
        op(5, "5", "-2", "7");
        op(5, GREATEST, "999999999999999", "1");
        op(5, "error", GREATEST, "1");
        op(5, "error", "-" + GREATEST, "-1");
        op(5, "0", "-" + GREATEST, GREATEST);
        op(6, "-9", "-2", "7");
        op(6, "-" + GREATEST, "-999999999999999", "1");
        op(6, "error", "-" + GREATEST, "1");
        op(6, "error", GREATEST, "-" + GREATEST);
        op(7, "-14", "-2", "7");
        op(7, "0", "0", GREATEST);
        op(7, "0", GREATEST, "0");
        op(7, GREATEST, "-1", "-" + GREATEST);
        op(7, "-" + GREATEST, "1", "-" + GREATEST);
        op(7, "-" + GREATEST, "-31250000", "32000000");
        op(7, "error", "31250001", "32000000");
        op(7, "error", "31250000", "32000001");
        op(7, "error", "-2", GREATEST);
        op(7, "error", GREATEST, GREATEST);
        op(7, "error", "-" + GREATEST, GREATEST);
        // The low 64 bits of this product would be a WHOLE again.
        op(7, "error", "4294967296", "4294967296");
        op(8, "3", "7", "2");
        op(8, "-3", "-7", "2");
        op(8, "-3", "7", "-2");
        op(8, "3", "-7", "-2");
        op(8, "-" + GREATEST, GREATEST, "-1");
        op(8, "error", "7", "0");
        op(8, "error", "0", "0");
        op(8, "0", "1", GREATEST);
        op(9, "1", "7", "2");
        op(9, "-1", "-7", "2");
        op(9, "1", "7", "-2");
        op(9, "-1", "-7", "-2");
        op(9, "0", "-6", "2");
        op(9, "error", "7", "0");
    }

    private static void lengthAndPart() {
        op(10, "0", "''k");
        op(10, "24", "'" + TWENTY_FOUR + "'");
        op(11, "'bc'e", "'abcd'e", "2", "2");
        op(11, "'abcd'", "'abcd'", "1", "4");
        op(11, "'abcd'", "'abcd'", "1", GREATEST);
        op(11, "'d'", "'abcd'", "4", "9");
        op(11, "''e", "'abcd'e", "5", "1");
        op(11, "''", "'abcd'", "2", "0");
        op(11, "''", "'abcd'", "2", "-3");
        op(11, "''", "'abcd'", "0", "1");
        op(11, "'a'", "'abcd'", "0", "2");
        op(11, "'ab'e", "'abcd'e", "-2", "5");
        op(11, "''", "'abcd'", "-2", "3");
        op(11, "''", "'abcd'", GREATEST, GREATEST);
        op(11, "''", "'abcd'", "-" + GREATEST, GREATEST);
        op(11, "''", "'abcd'", "-" + GREATEST, "-" + GREATEST);
        op(11, "''", "'abcd'", GREATEST, "-" + GREATEST);
        op(11, "''c", "''c", "1", "1");
        op(11, "'" + TWENTY_FOUR + "'", "'" + TWENTY_FOUR + "'", "1", "24");
    }

    private static void sizes() {
        op(12, "'AZ AZ@[`{5'r", "'az AZ@[`{5'r");
        op(13, "'az az@[`{5'r", "'az AZ@[`{5'r");
        op(12, "''", "''");
        op(13, "''b", "''b");
    }

    private static void joined() {
        op(14, "'abc'", "'a'", "'bc'");
        op(14, "'abc'q", "'a'q", "'bc'q");
        op(14, "'abc'", "'a'q", "'bc'");
        op(14, "'abc'", "'a'", "'bc'q");
        op(14, "'abc'", "'a'r", "'bc'q");
        op(14, "''", "''", "''");
        op(14, "'" + TWENTY_FOUR + "'", "'abcdefghijkl'", "'mnopqrstuvwx'");
        op(14, "error", "'abcdefghijkl'", "'mnopqrstuvwxy'");
        op(14, "'" + TWENTY_FOUR + "'f", "'" + TWENTY_FOUR + "'f", "''f");
        op(14, "error", "'" + TWENTY_FOUR + "'", "'" + TWENTY_FOUR + "'");
    }

    private static void seeking() {
        String[] texts = {"", "a", "ab", "abc", "ba", "bab", "aab", "abab", "c"};
        for (String a : texts) {
            for (String b : texts) {
                op(15, Boolean.toString(a.contains(b)), "'" + a + "'", "'" + b + "'");
                op(16, Boolean.toString(a.startsWith(b)), "'" + a + "'k", "'" + b + "'");
                op(17, Boolean.toString(a.endsWith(b)), "'" + a + "'k", "'" + b + "'k");
            }
        }
        for (int operation = 15; operation <= 19; operation++) {
            op(operation, "error", "'abc'k", "'b'l");
            op(operation, "error", "'abc'", "'b'l");
            op(operation, "error", "'abc'", "'x'l");
            op(operation, "error", "''", "''l");
        }
        op(15, "true", "'abc'k", "'b'k");
        op(15, "true", "'abc'k", "'b'");
    }

    private static void splitting() {
        op(18, "'a'e", "'abcbc'e", "'bc'");
        op(19, "'bc'e", "'abcbc'e", "'bc'e");
        op(18, "''", "'abc'e", "'x'");
        op(19, "''", "'abc'e", "'x'e");
        op(18, "''e", "'abc'e", "''");
        op(19, "'abc'e", "'abc'e", "''");
        op(18, "''e", "'abc'e", "'abc'");
        op(19, "''e", "'abc'e", "'abc'");
        op(18, "''", "'abc'e", "'abcd'");
        op(19, "''", "'abc'e", "'abcd'");
        op(18, "'a'", "'aab'", "'ab'");
        op(19, "'c'", "'aabc'", "'ab'");
        op(18, "''e", "''e", "''");
        op(19, "''", "''e", "'a'");
    }

    private static void tagAndKind() {
        op(20, "''", "'abc'");
        op(20, "'a'", "'abc'a");
        op(20, "'z'", "''z");
        op(21, "1", "false");
        op(21, "2", "0");
        op(21, "3", "''b");
        op(21, "4", "#999");
    }

    private static void choices() {
        op(22, "'b'e", "true", "'b'e", "#1");
        op(22, "#1", "false", "'b'e", "#1");
        op(22, "7", "-1", "7", "error");
        op(22, "error", "-1", "error", "7");
        op(22, "7", "0", "error", "7");
        op(22, "error", "0", "7", "error");
        op(22, "true", "'x'", "true", "false");
        op(22, "false", "''q", "true", "false");
        op(22, "error", "#1", "true", "true");
        op(22, "error", "error", "true", "true");
        op(23, "false", "false", "7");
        op(23, "''c", "''c", "7");
        op(23, "7", "7", "error");
        op(23, "#2", "#2", "true");
        op(23, "'ab'd", "error", "'ab'd");
        op(23, "error", "error", "error");
    }

    private static void given() {
        for (String value : ONE_OF_EACH) {
            op(24, "error", value);
        }
        op(24, "false", "error");
        FunctionRows x = new FunctionRows();
        int variable = x.leaf(0, 2);
        int other = x.leaf(0, 3);
        int given = x.call(24, variable, 0, 0);
        x.run(x.whole(0));
        x.give(2);
        Check.due("GIVEN: a value", Check.reckoned(x, given), "true");
        Check.due("GIVEN: the other one", Check.reckoned(x, x.call(24, other, 0, 0)), "false");
        Check.due("GIVEN: of a call", Check.reckoned(x, x.call(24, given, 0, 0)), "error");
        int taken = x.call(23, variable, variable, 0);
        Check.due("GIVEN: of what is a variable's value", Check.reckoned(x, x.call(24, taken, 0, 0)), "error");
        x.drop(2);
        Check.due("GIVEN: dropped", Check.reckoned(x, given), "false");
    }

    private static void number() {
        op(25, "-" + GREATEST, "-" + GREATEST);
        op(25, "1", "true");
        op(25, "0", "false");
        op(25, "error", "#5");
        op(25, "0", "'0'");
        op(25, "0", "'-0'");
        op(25, "7", "'007'");
        op(25, "-7", "'-007'");
        op(25, "999999999999999", "'999999999999999'");
        op(25, "-999999999999999", "'-999999999999999'");
        op(25, "error", "'1000000000000000'");
        op(25, "error", "'0000000000000000'");
        op(25, "error", "'-1000000000000000'");
        op(25, "error", "''");
        op(25, "error", "'-'");
        op(25, "error", "'--1'");
        op(25, "error", "'1-'");
        op(25, "error", "'+1'");
        op(25, "error", "' 1'");
        op(25, "error", "'1 '");
        op(25, "error", "'1.0'");
        op(25, "error", "'1:'");
        op(25, "error", "'/1'");
        op(25, "error", "'5'e");
        op(25, "error", "'true'");
    }

    private static void words() {
        op(26, "'true'", "true");
        op(26, "'false'", "false");
        op(26, "'0'", "0");
        op(26, "'10'", "10");
        op(26, "'-1'", "-1");
        op(26, "'9'", "9");
        op(26, "'1000000000000000'", GREATEST);
        op(26, "'-1000000000000000'", "-" + GREATEST);
        op(26, "'999999999999999'", "999999999999999");
        op(26, "'-102030'", "-102030");
        op(26, "'#0'", "#0");
        op(26, "'#10'", "#10");
        op(26, "'#999'", "#999");
        op(26, "'abc'", "'abc'e");
        op(26, "''", "''e");
        op(26, "'" + TWENTY_FOUR + "'", "'" + TWENTY_FOUR + "'");
    }

    private static void turned() {
        op(28, "'axyzc'e", "'abc'e", "'b'", "'xyz'");
        op(28, "'ac'e", "'abc'e", "'b'", "''");
        op(28, "'ba'", "'aaa'", "'aa'", "'b'");
        op(28, "'aaaa'", "'aa'", "'a'", "'aa'");
        op(28, "''e", "'aaa'e", "'a'", "''");
        op(28, "'abc'e", "'abc'e", "'x'", "'yyy'");
        op(28, "'abc'", "'abc'", "'abcd'", "'y'");
        op(28, "''", "''", "'a'", "'b'");
        op(28, "'ab'", "'aabb'", "'ab'", "''");
        op(28, "error", "'abc'", "''", "'b'");
        op(28, "error", "'abc'e", "'b'e", "'c'");
        op(28, "error", "'abc'e", "'b'", "'c'e");
        op(28, "'xxxxxxxxyyyyyyyyzzzzzzzz'", "'aaa'", "'aaa'", "'xxxxxxxxyyyyyyyyzzzzzzzz'");
        op(28, "'bbbbbbbbbbbbbbbbbbbbbbbb'", "'aaaaaaaaaaaa'", "'a'", "'bb'");
        op(28, "error", "'aaaaaaaaaaaac'", "'a'", "'bb'");
        op(28, "error", "'" + TWENTY_FOUR + "'", "'x'", "'yz'");
        // Above 24 bytes only if the bytes that go had stayed.
        op(28, "'aaaaaaaaaaaaaaaaaaaaaaa'", "'" + "b" + "aaaaaaaaaaaaaaaaaaaaaaa" + "'", "'b'", "''");
    }

    private static void in() {
        op(29, "true", "5", "5", "6");
        op(29, "true", "5", "6", "5");
        op(29, "false", "5", "6", "7");
        op(29, "true", "5", "5", "error");
        op(29, "true", "5", "error", "5");
        op(29, "true", "5", "'a'", "5");
        op(29, "true", "5", "5", "true");
        op(29, "error", "5", "6", "error");
        op(29, "error", "5", "error", "6");
        op(29, "error", "5", "6", "'a'");
        op(29, "error", "5", "'a'", "6");
        op(29, "error", "error", "5", "5");
        op(29, "error", "error", "error", "error");
        op(29, "error", "#5", "#6", "error");
        op(29, "error", "#5", "error", "#6");
        op(29, "error", "error", "#6", "#7");
        op(29, "false", "#5", "5", "'a'");
        op(29, "false", "5", "#5", "6");
        op(29, "true", "#5", "5", "#5");
        op(29, "false", "'a'b", "'a'", "'a'c");
        op(29, "true", "'a'b", "'a'", "'a'b");
        op(29, "error", "true", "1", "false");
    }
}
