/** The boundaries of operations 0 to 4, 21 to 24 and 29 (promise 8), sentence by sentence. */
public final class TruthBoundariesTest {
    private static final String GREATEST = "1000000000000000";
    private static final String LONGEST = "'abcdefghijklmnopqrstuvwx'";
    private static final String[] TRUE = {
        "true", "1", "-1", "256", "4294967296", "-4294967296", GREATEST, "-" + GREATEST, "' '", "'0'", "'false'",
        "'a'z", LONGEST
    };
    private static final String[] FALSE = {"false", "0", "''", "''a", "''z"};
    private static final String[] NEITHER = {"#0", "#1", "#999", "error", "1/0"};
    private static final String[] ONE_OF_EACH = {"true", "1", "'1'", "#1"};

    public static void main(String[] args) {
        truthOf();
        not();
        and();
        or();
        sameOfOneKind();
        sameTags();
        sameOfTwoKinds();
        lessWholes();
        lessTruths();
        lessTexts();
        lessBeginnings();
        lessOtherKinds();
        kind();
        ifTaken();
        ifNotLookedAt();
        ifNoTruth();
        elseTaken();
        elseNotLookedAt();
        given();
        givenOfOthers();
        inTrue();
        inError();
        inFalse();
        Check.end();
    }

    private static void op(int operation, String want, String... operands) {
        Check.operation(operation, want, operands);
    }

    private static void truthOf() {
        Check.sentence("Promise 8, THE TRUTH OF", "itself for a TRUTH");
        op(22, "1", "true", "1", "2");
        op(22, "2", "false", "1", "2");
        Check.sentence("Promise 8, THE TRUTH OF", "of a WHOLE whether it is not 0");
        op(22, "2", "0", "1", "2");
        for (String whole : new String[] {"1", "-1", "2", "256", "65536", "4294967296", GREATEST, "-" + GREATEST}) {
            op(22, "1", whole, "1", "2");
        }
        Check.sentence("Promise 8, THE TRUTH OF", "of a TEXT whether it has a byte");
        for (String text : new String[] {"''", "''a", "''z"}) {
            op(22, "2", text, "1", "2");
        }
        for (String text : new String[] {"' '", "'0'", "'false'", "'~'a", LONGEST}) {
            op(22, "1", text, "1", "2");
        }
        Check.sentence("Promise 8, THE TRUTH OF", "of all others an ERROR");
        for (String other : NEITHER) {
            op(22, "error", other, "1", "2");
        }
    }

    private static void not() {
        Check.sentence("Promise 8, 0 NOT", "the other truth of a");
        for (String a : TRUE) {
            op(0, "false", a);
        }
        for (String a : FALSE) {
            op(0, "true", a);
        }
        for (String a : NEITHER) {
            op(0, "error", a);
        }
    }

    private static void and() {
        Check.sentence("Promise 8, 1 AND", "false when the truth of one is false");
        all(1, "false", FALSE, FALSE);
        all(1, "false", FALSE, TRUE);
        all(1, "false", TRUE, FALSE);
        all(1, "false", FALSE, NEITHER);
        all(1, "false", NEITHER, FALSE);
        Check.sentence("Promise 8, 1 AND", "true when both are");
        all(1, "true", TRUE, TRUE);
        Check.sentence("Promise 8, 1 AND", "else an ERROR");
        all(1, "error", TRUE, NEITHER);
        all(1, "error", NEITHER, TRUE);
        all(1, "error", NEITHER, NEITHER);
    }

    private static void or() {
        Check.sentence("Promise 8, 2 OR", "true when the truth of one is");
        all(2, "true", TRUE, TRUE);
        all(2, "true", FALSE, TRUE);
        all(2, "true", TRUE, FALSE);
        all(2, "true", TRUE, NEITHER);
        all(2, "true", NEITHER, TRUE);
        Check.sentence("Promise 8, 2 OR", "false when both are false");
        all(2, "false", FALSE, FALSE);
        Check.sentence("Promise 8, 2 OR", "else an ERROR");
        all(2, "error", FALSE, NEITHER);
        all(2, "error", NEITHER, FALSE);
        all(2, "error", NEITHER, NEITHER);
    }

    private static void all(int operation, String want, String[] firsts, String[] seconds) {
        for (String a : firsts) {
            for (String b : seconds) {
                op(operation, want, a, b);
            }
        }
    }

    private static void sameOfOneKind() {
        Check.sentence("Promise 8, 3 SAME", "two values of one kind: whether they are alike");
        String[][] kinds = {
            {"true", "false"},
            {"0", "1", "-1", "256", "4294967296", "4294967297", GREATEST, "-" + GREATEST, "999999999999999"},
            {
                "''", "' '", "'a'", "'A'", "'b'", "'ab'", "'ba'", "'aa'", LONGEST, "'abcdefghijklmnopqrstuvw'",
                "'abcdefghijklmnopqrstuvwy'"
            },
            {"#0", "#1", "#255", "#256", "#998", "#999"}
        };
        for (String[] kind : kinds) {
            for (String a : kind) {
                for (String b : kind) {
                    op(3, Boolean.toString(a.equals(b)), a, b);
                }
            }
        }
    }

    private static void sameTags() {
        Check.sentence("Promise 8, 3 SAME", "texts: with like tags");
        String[] tags = {"", "a", "b", "y", "z"};
        for (String a : tags) {
            for (String b : tags) {
                op(3, Boolean.toString(a.equals(b)), "'ab'" + a, "'ab'" + b);
                op(3, Boolean.toString(a.equals(b)), "''" + a, "''" + b);
                op(3, "false", "'ab'" + a, "'ac'" + b);
            }
        }
    }

    private static void sameOfTwoKinds() {
        Check.sentence("Promise 8, 3 SAME", "of two kinds: false when one is a NODE");
        for (String other : new String[] {"true", "false", "0", "1", "7", "''", "'7'", "'#7'", "'#7'b"}) {
            for (String node : new String[] {"#0", "#1", "#7", "#999"}) {
                op(3, "false", node, other);
                op(3, "false", other, node);
            }
        }
        Check.sentence("Promise 8, 3 SAME", "of two kinds: false when one is a NODE, else an ERROR");
        String[][] twos = {
            {"true", "1"}, {"false", "0"}, {"true", "'true'"}, {"1", "'1'"}, {"0", "''"}, {"false", "''"}
        };
        for (String[] two : twos) {
            op(3, "error", two[0], two[1]);
            op(3, "error", two[1], two[0]);
        }
        Check.sentence("Terms", "Where an operand is an ERROR [..] a call is an ERROR, if nothing else is said.");
        for (String error : new String[] {"error", "1/0"}) {
            for (String value : ONE_OF_EACH) {
                op(3, "error", error, value);
                op(3, "error", value, error);
                op(4, "error", error, value);
                op(4, "error", value, error);
            }
            op(3, "error", error, error);
            op(4, "error", error, error);
        }
    }

    private static void lessWholes() {
        Check.sentence("Promise 8, 4 LESS", "two WHOLES");
        inOrder("-" + GREATEST, "-999999999999999", "-4294967296", "-2", "-1", "0", "1", "2", "255", "4294967296",
            "999999999999999", GREATEST);
    }

    private static void lessTruths() {
        Check.sentence("Promise 8, 4 LESS", "two TRUTHS (false before true)");
        inOrder("false", "true");
    }

    private static void lessTexts() {
        Check.sentence("Promise 8, 4 LESS", "two TEXTS of one tag by their bytes");
        String[] sorted = {
            "", " ", " ~", "!", "-1", "0", "10", "9", "A", "Z", "Za", "[", "a", "aB", "aa", "b", "z", "~", "~ "
        };
        String[] tags = {"", "a", "z"};
        for (String tag : tags) {
            String[] texts = new String[sorted.length];
            for (int i = 0; i < sorted.length; i++) {
                texts[i] = "'" + sorted[i] + "'" + tag;
            }
            inOrder(texts);
            for (String other : tags) {
                if (!other.equals(tag)) {
                    op(4, "error", "'a'" + tag, "'b'" + other);
                    op(4, "error", "'b'" + tag, "'a'" + other);
                    op(4, "error", "'a'" + tag, "'a'" + other);
                    op(4, "error", "''" + tag, "''" + other);
                }
            }
        }
    }

    private static void lessBeginnings() {
        Check.sentence("Promise 8, 4 LESS", "one that is the beginning of the other one first");
        inOrder("''", "'a'", "'ab'", "'abcdefghijklmnopqrstuvw'", LONGEST);
        inOrder("''q", "' 'q", "'  'q", "'                        'q");
        op(4, "true", "'abc'", "'abd'");
        op(4, "true", "'abc'", "'abdc'");
        op(4, "false", "'abd'", "'abcd'");
    }

    private static void inOrder(String... values) {
        for (int i = 0; i < values.length; i++) {
            for (int j = 0; j < values.length; j++) {
                op(4, Boolean.toString(i < j), values[i], values[j]);
            }
        }
    }

    private static void lessOtherKinds() {
        Check.sentence("Terms", "Where an operand is [..] of another kind than told, a call is an ERROR");
        op(4, "error", "#1", "#2");
        op(4, "error", "#1", "#1");
        for (String a : ONE_OF_EACH) {
            for (String b : ONE_OF_EACH) {
                op(4, a.equals("#1") || !a.equals(b) ? "error" : "false", a, b);
            }
        }
    }

    private static void kind() {
        Check.sentence("Promise 8, 21 KIND", "1 TRUTH, 2 WHOLE, 3 TEXT, 4 NODE, as a WHOLE");
        String[][] kinds = {{"true", "false"}, {"0", GREATEST, "-1"}, {"''", "''z", LONGEST}, {"#0", "#999"}};
        for (int i = 0; i < kinds.length; i++) {
            for (String value : kinds[i]) {
                op(21, Integer.toString(i + 1), value);
            }
        }
        Check.sentence("Terms", "Where an operand is an ERROR [..] a call is an ERROR, if nothing else is said.");
        op(21, "error", "error");
        op(21, "error", "1/0");
    }

    private static void ifTaken() {
        Check.sentence("Promise 8, 22 IF", "b when the truth of a is true, c when false");
        String[] taken = {"true", "false", "-" + GREATEST, "''", LONGEST + "z", "#999"};
        for (String value : taken) {
            for (String a : TRUE) {
                op(22, value, a, value, "77");
            }
            for (String a : FALSE) {
                op(22, value, a, "77", value);
            }
        }
    }

    private static void ifNotLookedAt() {
        Check.sentence("Promise 8, 22 IF", "the other one is not looked at");
        for (String error : new String[] {"error", "1/0"}) {
            op(22, "'b'c", "true", "'b'c", error);
            op(22, "'b'c", "false", error, "'b'c");
            op(22, "error", "true", error, "'b'c");
            op(22, "error", "false", "'b'c", error);
        }
    }

    private static void ifNoTruth() {
        Check.sentence("Promise 8, 22 IF", "b when the truth of a is true, c when false");
        for (String a : NEITHER) {
            op(22, "error", a, "1", "1");
            op(22, "error", a, "true", "false");
        }
    }

    private static void elseTaken() {
        Check.sentence("Promise 8, 23 ELSE", "a when it is no ERROR, else b");
        for (String value : new String[] {"true", "false", "0", GREATEST, "''", "''c", LONGEST + "z", "#0", "#999"}) {
            op(23, value, value, "77");
            op(23, value, "error", value);
            op(23, value, "1/0", value);
        }
        op(23, "error", "error", "1/0");
        op(23, "error", "1/0", "error");
    }

    private static void elseNotLookedAt() {
        Check.sentence("Promise 8, 23 ELSE", "which is not looked at otherwise");
        for (String value : new String[] {"false", "0", "''", "#0"}) {
            op(23, value, value, "error");
            op(23, value, value, "1/0");
        }
    }

    private static void given() {
        Check.sentence("Promise 8, 24 GIVEN", "of a variable whether the row gives it a value");
        for (String value : new String[] {"true", "false", "0", "5", "''", "'ab'z", "#0", "#999"}) {
            FunctionRows x = new FunctionRows();
            int variable = x.leaf(0, 7);
            int other = x.leaf(0, 0);
            int given = x.call(24, variable, 0, 0);
            Check.due("GIVEN before", Check.reckoned(x, given), "false");
            x.run(Check.make(x, value));
            x.give(7);
            Check.due("GIVEN of " + value, Check.reckoned(x, given), "true");
            Check.due("GIVEN of another variable", Check.reckoned(x, x.call(24, other, 0, 0)), "false");
            Check.due("GIVEN of the variable once more", Check.reckoned(x, x.call(24, x.leaf(0, 7), 0, 0)), "true");
            x.drop(7);
            Check.due("GIVEN behind drop", Check.reckoned(x, given), "false");
        }
    }

    private static void givenOfOthers() {
        Check.sentence("Promise 8, 24 GIVEN", "ERROR of another expression");
        for (String value : new String[] {"true", "false", "0", "1", "''", "'a'", "#0", "#999", "1/0"}) {
            op(24, "error", value);
        }
        FunctionRows x = new FunctionRows();
        int variable = x.leaf(0, 0);
        x.run(x.leaf(1, 1));
        x.give(0);
        for (int operation : new int[] {0, 22, 23, 24, 26}) {
            int e = x.call(operation, variable, variable, variable);
            Check.due("GIVEN of a call of a variable", Check.reckoned(x, x.call(24, e, 0, 0)), "error");
        }
    }

    private static void inTrue() {
        Check.sentence("Promise 8, 29 IN", "true when a is SAME as b or as c");
        String[] others = {"true", "false", "0", "6", "''", "'a'b", "#6", "error", "1/0"};
        String[] values = {"true", "false", "0", "5", GREATEST, "''", "'a'", "'a'b", LONGEST, "#0", "#999"};
        for (String a : values) {
            op(29, "true", a, a, a);
            for (String other : others) {
                op(29, "true", a, a, other);
                op(29, "true", a, other, a);
            }
        }
    }

    private static void inError() {
        Check.sentence("Promise 8, 29 IN", "else an ERROR, if SAME is one of either");
        String[][] sets = {
            {"5", "6", "'5'"}, {"5", "6", "true"}, {"'5'", "'6'", "5"}, {"true", "false", "1"}, {"5", "#5", "'5'"}
        };
        for (String[] set : sets) {
            op(29, "error", set[0], set[1], set[2]);
            op(29, "error", set[0], set[2], set[1]);
            op(29, "error", set[0], set[2], set[2]);
        }
        Check.sentence("Promise 8, 29 IN", "(or a, b, c is)");
        for (String error : new String[] {"error", "1/0"}) {
            for (String a : new String[] {"5", "true", "'a'", "#5"}) {
                op(29, "error", a, "#6", error);
                op(29, "error", a, error, "#6");
                op(29, "error", a, error, error);
                op(29, "error", error, a, a);
                op(29, "error", error, error, a);
                op(29, "error", error, a, error);
            }
            op(29, "error", error, error, error);
        }
    }

    private static void inFalse() {
        Check.sentence("Promise 8, 29 IN", "else false");
        String[][] sets = {
            {"true", "false"}, {"5", "6"}, {"5", "-5"}, {"'a'", "'b'"}, {"'a'", "'a'b"}, {"'a'b", "'a'"}, {"#5", "#6"},
            {"#5", "5"}, {"#5", "'#5'"}, {"#1", "true"}, {"5", "#5"}, {"'#5'", "#5"}, {"true", "#1"}
        };
        for (String[] set : sets) {
            op(29, "false", set[0], set[1], set[1]);
            op(29, "false", set[0], set[1], "#7");
            op(29, "false", set[0], "#7", set[1]);
        }
    }
}
