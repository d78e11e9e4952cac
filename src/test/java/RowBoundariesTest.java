/** The boundaries of promises 8 to 15, sentence by sentence: what was reckoned, the row, what is in an expression. */
public final class RowBoundariesTest {
    private static final int BAD = FunctionRows.BAD;
    private static final int NO = FunctionRows.NO;
    private static final String GREATEST = "1000000000000000";
    private static final String LONGEST = "'abcdefghijklmnopqrstuvwx'z";
    private static final String[] VALUES = {
        "true", "false", "0", GREATEST, "-" + GREATEST, "-2", "''", "''z", "' '", LONGEST, "#0", "#999"
    };
    private static final int[] KINDS = {1, 1, 2, 2, 2, 2, 3, 3, 3, 3, 4, 4};
    private static final long[] NUMBERS = {
        1, 0, 0, 1_000_000_000_000_000L, -1_000_000_000_000_000L, -2, 0, 0, 1, 24, 0, 999
    };
    private static final int[] TAGS = {NO, NO, NO, NO, NO, NO, 0, 26, 0, 26, NO, NO};
    private static final int[] NO_VARIABLES = {-1, -8, 8, 9, 256, 264, Integer.MIN_VALUE, Integer.MAX_VALUE};

    public static void main(String[] args) {
        runKinds();
        runBad();
        runWithTheRow();
        runReckonsAllThatIsIn();
        runReckonsAnew();
        number();
        numberOfNothing();
        tag();
        letterBytes();
        letterNone();
        give();
        giveBad();
        giveNo();
        giveHoldsItsOwn();
        drop();
        dropTwice();
        dropBad();
        uses();
        usesSame();
        usesBad();
        depth();
        depthGreatest();
        depthBad();
        Check.end();
    }

    private static void runKinds() {
        Check.sentence("Promise 8", "its kind (0 ERROR, 1 TRUTH, 2 WHOLE, 3 TEXT, 4 NODE)");
        FunctionRows x = new FunctionRows();
        for (int i = 0; i < VALUES.length; i++) {
            Check.due("run of " + VALUES[i], x.run(Check.make(x, VALUES[i])), KINDS[i]);
        }
        Check.due("run of a variable without a value", x.run(x.leaf(0, 0)), 0);
        Check.due("run of a call that is an ERROR", x.run(x.call(5, 0, 0, 0)), 0);
    }

    private static void runBad() {
        Check.sentence("Promise 8", "BAD (what was reckoned stays)");
        Check.due("run(0) when there is none", new FunctionRows().run(0), BAD);
        for (String value : new String[] {"error", "true", "false", "-5", "''b", LONGEST, "#999"}) {
            FunctionRows x = new FunctionRows();
            int e = Check.make(x, value);
            x.whole(44);
            int kind = x.run(e);
            for (int none : new int[] {-1, -2, 2, 3, 79, 80, 81, 256, Integer.MIN_VALUE, Integer.MAX_VALUE}) {
                Check.due("run(" + none + ")", x.run(none), BAD);
            }
            Check.due("the latest behind BAD", Check.latest(x, kind), value);
            Check.due("run of the last one", x.run(1), 2);
            Check.due("what it is", x.number(), 44);
        }
        FunctionRows x = new FunctionRows();
        x.run(5);
        Check.due("number() when nothing was reckoned before", x.number(), NO);
        x.whole(1);
        x.run(1);
        Check.due("number() when only BAD was answered", x.number(), NO);
        Check.due("give(0) when only BAD was answered", x.give(0), NO);
    }

    private static void runWithTheRow() {
        Check.sentence("Terms", "variables (an ERROR when the row gives none)");
        FunctionRows x = new FunctionRows();
        for (int v = 0; v < 8; v++) {
            x.leaf(0, v);
        }
        int sum = x.call(5, 0, 7, 0);
        Check.due("+ of variables without values", Check.reckoned(x, sum), "error");
        x.run(x.whole(3));
        x.give(0);
        Check.due("+ of one with a value", Check.reckoned(x, sum), "error");
        x.run(x.whole(4));
        x.give(7);
        for (int v = 0; v < 8; v++) {
            Check.due("variable " + v, Check.reckoned(x, v), v == 0 ? "3" : v == 7 ? "4" : "error");
        }
        Check.due("+ of both with values", Check.reckoned(x, sum), "7");
        x.drop(0);
        Check.due("+ of one without a value again", Check.reckoned(x, sum), "error");
        Check.due("the variable without a value again", Check.reckoned(x, 0), "error");
        Check.due("the other one", Check.reckoned(x, 7), "4");
    }

    /** Calls as operands that no run of their own has reckoned, in each place, and far within. */
    private static void runReckonsAllThatIsIn() {
        Check.sentence("Promise 8", "An expression is reckoned with the row");
        FunctionRows x = new FunctionRows();
        int two = x.whole(2);
        int text = Check.make(x, "'abcdef'");
        int first = x.call(14, text, text, 0);
        int second = x.call(5, two, two, 0);
        int third = x.call(7, two, two, 0);
        int part = x.call(11, first, second, third);
        Check.due("PART of three calls", Check.reckoned(x, part), "'defa'");
        int e = second;
        for (int i = 0; i < 40; i++) {
            e = x.call(5, i % 2 == 0 ? e : two, i % 2 == 0 ? two : e, 0);
        }
        Check.due("+ of 40 within one another", Check.reckoned(x, e), "84");
    }

    private static void runReckonsAnew() {
        Check.sentence("Promise 8", "An expression is reckoned with the row");
        FunctionRows x = new FunctionRows();
        int variable = x.leaf(0, 4);
        int inner = x.call(7, variable, variable, 0);
        int[] outer = {
            x.call(22, inner, inner, inner), x.call(23, inner, variable, 0), x.call(29, variable, variable, inner)
        };
        String[] given = {"3", "error", "0", "true", "-4", "error", "31622776", "31622777", "1"};
        String[] dueOfIf = {"9", "error", "0", "error", "16", "error", "999999961946176", "error", "1"};
        String[] dueOfElse = {"9", "error", "0", "true", "16", "error", "999999961946176", "31622777", "1"};
        for (int i = 0; i < given.length; i++) {
            if (x.run(Check.make(x, given[i])) == 0) {
                x.drop(4);
            } else {
                x.give(4);
            }
            Check.due("IF with " + given[i], Check.reckoned(x, outer[0]), dueOfIf[i]);
            Check.due("ELSE with " + given[i], Check.reckoned(x, outer[1]), dueOfElse[i]);
            Check.due("IN with " + given[i], Check.reckoned(x, outer[2]), given[i].equals("error") ? "error" : "true");
        }
    }

    private static void number() {
        Check.sentence("Promise 9", "1 or 0 of a TRUTH, a WHOLE, a NODE's number, how many bytes a TEXT has");
        FunctionRows x = new FunctionRows();
        for (int i = 0; i < VALUES.length; i++) {
            x.run(Check.make(x, VALUES[i]));
            Check.due("number() of " + VALUES[i], x.number(), NUMBERS[i]);
            Check.due("number() again", x.number(), NUMBERS[i]);
        }
        for (int length = 0; length <= 24; length++) {
            FunctionRows y = new FunctionRows();
            y.run(Check.make(y, "'" + LONGEST.substring(1, 1 + length) + "'"));
            Check.due("number() of a text of " + length, y.number(), length);
        }
    }

    private static void numberOfNothing() {
        Check.sentence("Promise 9", "NO: it was an ERROR, or nothing.");
        Check.due("number() of nothing", new FunctionRows().number(), NO);
        FunctionRows x = new FunctionRows();
        x.leaf(0, 0);
        for (String value : VALUES) {
            x.run(Check.make(x, value));
            x.run(0);
            Check.due("number() of an ERROR behind " + value, x.number(), NO);
        }
    }

    private static void tag() {
        Check.sentence("Promise 10", "A TEXT's tag. NO: it was none.");
        Check.due("tag() of nothing", new FunctionRows().tag(), NO);
        FunctionRows x = new FunctionRows();
        int other = Check.make(x, "'q'y");
        for (int i = 0; i < VALUES.length; i++) {
            x.run(other);
            x.run(Check.make(x, VALUES[i]));
            Check.due("tag() of " + VALUES[i], x.tag(), TAGS[i]);
        }
        x.run(other);
        x.run(x.leaf(0, 0));
        Check.due("tag() of an ERROR", x.tag(), NO);
        Check.sentence("Terms", "0 none, 1 .. 26 letters a .. z");
        for (int tag = 0; tag <= 26; tag++) {
            FunctionRows y = new FunctionRows();
            y.run(Check.text(y, "q", tag));
            Check.due("tag() of tag " + tag, y.tag(), tag);
        }
    }

    private static void letterBytes() {
        Check.sentence("Promise 11", "Byte i of a TEXT.");
        for (int length = 1; length <= 24; length++) {
            FunctionRows x = new FunctionRows();
            x.run(Check.make(x, LONGEST.substring(0, 1 + length) + "'"));
            for (int i = 0; i < length; i++) {
                Check.due("letter(" + i + ") of " + length, x.letter(i), 'a' + i);
            }
        }
    }

    private static void letterNone() {
        Check.sentence("Promise 11", "NO: it was none, or has no such byte.");
        Check.due("letter(0) of nothing", new FunctionRows().letter(0), NO);
        for (int length = 0; length <= 24; length++) {
            FunctionRows x = new FunctionRows();
            x.run(Check.make(x, LONGEST));
            x.run(Check.make(x, LONGEST.substring(0, 1 + length) + "'"));
            for (int i : new int[] {-1, -24, length, length + 1, 24, 25, 256, Integer.MIN_VALUE, Integer.MAX_VALUE}) {
                Check.due("letter(" + i + ") of " + length, x.letter(i), NO);
            }
        }
        for (String value : new String[] {"true", "false", "5", "0", GREATEST, "#0", "#999", "error"}) {
            FunctionRows x = new FunctionRows();
            x.run(Check.make(x, LONGEST));
            x.run(Check.make(x, value));
            for (int i : new int[] {-1, 0, 1, 23, 24}) {
                Check.due("letter(" + i + ") of " + value, x.letter(i), NO);
            }
        }
    }

    private static void give() {
        Check.sentence("Promise 12", "The row gives a variable what was reckoned latest: 1.");
        for (int v = 0; v < 8; v++) {
            FunctionRows x = new FunctionRows();
            int variable = x.leaf(0, v);
            int given = x.call(24, variable, 0, 0);
            for (String value : VALUES) {
                int kind = x.run(Check.make(x, value));
                Check.due("give(" + v + ")", x.give(v), 1);
                Check.due("the latest behind it", Check.latest(x, kind), value);
                Check.due("variable " + v, Check.reckoned(x, variable), value);
                Check.due("GIVEN of variable " + v, Check.reckoned(x, given), "true");
            }
            for (int other = 0; other < 8; other++) {
                Check.due("drop(" + other + ") when only " + v + " was given", x.drop(other), other == v ? 1 : 0);
            }
        }
    }

    private static void giveBad() {
        Check.sentence("Promise 12", "BAD: no variable");
        FunctionRows x = withRow();
        x.run(x.whole(77));
        for (int none : NO_VARIABLES) {
            Check.due("give(" + none + ")", x.give(none), BAD);
            Check.due("give(" + none + ") when nothing was reckoned", new FunctionRows().give(none), BAD);
        }
        mustBeRow(x, -1, "");
        x.run(x.leaf(0, 7));
        x.drop(7);
        x.run(x.leaf(0, 7));
        for (int none : NO_VARIABLES) {
            Check.due("give(" + none + ") when it was an ERROR", x.give(none), BAD);
        }
        x.run(x.whole(78));
        Check.due("give(0)", x.give(0), 1);
        Check.due("give(7)", x.give(7), 1);
        Check.due("variable 0", Check.reckoned(x, 0), "78");
        Check.due("variable 7", Check.reckoned(x, 7), "78");
    }

    private static void giveNo() {
        Check.sentence("Promise 12", "NO: it was an ERROR, or nothing (the variable stays)");
        FunctionRows x = withRow();
        int error = x.call(10, x.whole(1), 0, 0);
        for (int v = 0; v < 8; v++) {
            x.run(error);
            Check.due("give(" + v + ") of an ERROR", x.give(v), NO);
        }
        mustBeRow(x, -1, "");
        x.drop(3);
        x.run(error);
        Check.due("give(3) of an ERROR", x.give(3), NO);
        Check.due("number() behind it", x.number(), NO);
        Check.due("drop(3), which has no value", x.drop(3), 0);
        mustBeRow(x, 3, "error");
        FunctionRows y = new FunctionRows();
        for (int v = 0; v < 8; v++) {
            Check.due("give(" + v + ") of nothing", y.give(v), NO);
            Check.due("drop(" + v + "), which has no value", y.drop(v), 0);
        }
    }

    private static void giveHoldsItsOwn() {
        Check.sentence("Terms", "THE ROW gives each of the VARIABLES 0 .. 7 a value that is no ERROR, or none.");
        FunctionRows x = withRow();
        mustBeRow(x, -1, "");
        x.run(7);
        x.give(0);
        Check.due("variable 0, given variable 7's value", Check.reckoned(x, 0), VALUES[7]);
        x.run(x.whole(5));
        x.give(7);
        mustBeRow(x, 7, "5", 0, VALUES[7]);
        x.run(0);
        Check.due("give(0) of its own value", x.give(0), 1);
        mustBeRow(x, 7, "5", 0, VALUES[7]);
        x.drop(0);
        mustBeRow(x, 7, "5", 0, "error");
    }

    private static void drop() {
        Check.sentence("Promise 13", "The row gives a variable no value: 1");
        for (int v = 0; v < 8; v++) {
            FunctionRows x = withRow();
            int kind = x.run(v);
            String was = Check.latest(x, kind);
            Check.due("drop(" + v + ")", x.drop(v), 1);
            Check.due("the latest behind it", Check.latest(x, kind), was);
            Check.due("GIVEN of variable " + v, Check.reckoned(x, x.call(24, v, 0, 0)), "false");
            mustBeRow(x, v, "error");
        }
    }

    private static void dropTwice() {
        Check.sentence("Promise 13", "0 when it gave none");
        FunctionRows x = withRow();
        for (int v = 0; v < 8; v++) {
            Check.due("drop(" + v + ") of a new object", new FunctionRows().drop(v), 0);
            Check.due("drop(" + v + ")", x.drop(v), 1);
            Check.due("drop(" + v + ") again", x.drop(v), 0);
        }
        x.run(x.whole(6));
        Check.due("give(2)", x.give(2), 1);
        Check.due("drop(2) behind it", x.drop(2), 1);
        Check.due("drop(2) again", x.drop(2), 0);
    }

    private static void dropBad() {
        Check.sentence("Promise 13", "BAD");
        FunctionRows x = withRow();
        for (int none : NO_VARIABLES) {
            Check.due("drop(" + none + ")", x.drop(none), BAD);
            Check.due("drop(" + none + ") of a new object", new FunctionRows().drop(none), BAD);
        }
        mustBeRow(x, -1, "");
        Check.due("drop(0)", x.drop(0), 1);
        Check.due("drop(7)", x.drop(7), 1);
    }

    private static void uses() {
        Check.sentence("Promise 14", "The variables in an expression, and in those in it, as bits");
        FunctionRows x = new FunctionRows();
        for (int v = 0; v < 8; v++) {
            x.leaf(0, v);
            Check.due("uses of variable " + v, x.uses(v), 1 << v);
        }
        int all = x.call(22, 0, 1, 2);
        Check.due("uses of a call of 0, 1, 2", x.uses(all), 7);
        for (int v = 3; v < 8; v++) {
            all = x.call(23, v, all, 0);
            Check.due("uses with variable " + v + " in it", x.uses(all), (2 << v) - 1);
        }
        Check.due("uses of one twice", x.uses(x.call(5, 7, 7, 0)), 128);
        Check.due("uses of GIVEN", x.uses(x.call(24, 6, 0, 0)), 64);
        Check.due("uses of AND with all twice", x.uses(x.call(1, all, all, 0)), 255);
        Check.due("uses of NOT, which takes the first alone", x.uses(x.call(0, 3, all, all)), 8);
        Check.due("uses of +, which takes two", x.uses(x.call(5, 3, 4, all)), 24);
    }

    private static void usesSame() {
        Check.sentence("Promise 14", "0: it is the same in all rows");
        FunctionRows x = new FunctionRows();
        for (String value : new String[] {"true", "0", "''", "#0"}) {
            Check.due("uses of " + value, x.uses(Check.make(x, value)), 0);
        }
        Check.due("uses of a call of values", x.uses(x.call(29, 0, 1, 2)), 0);
        Check.due("uses of a call of that call", x.uses(x.call(0, 4, 0, 0)), 0);
        Check.due("uses of an ERROR of values", x.uses(x.call(8, 1, 1, 0)), 0);
        Check.due("uses of GIVEN of a value", x.uses(x.call(24, 1, 0, 0)), 0);
        int variable = x.leaf(0, 0);
        Check.due("uses of IF that does not look at a variable", x.uses(x.call(22, 0, 1, variable)), 1);
        x.run(1);
        x.give(0);
        Check.due("uses of a variable with a value", x.uses(variable), 1);
    }

    private static void usesBad() {
        Check.sentence("Promise 14", "BAD.");
        FunctionRows x = withRow();
        for (int e : new int[] {-1, x.size(), 80, 256, Integer.MIN_VALUE, Integer.MAX_VALUE}) {
            Check.due("uses(" + e + ")", x.uses(e), BAD);
            Check.due("uses(" + e + ") of a new object", new FunctionRows().uses(e), BAD);
        }
        Check.due("uses(0) of a new object", new FunctionRows().uses(0), BAD);
        Check.due("uses of the last", x.uses(x.size() - 1), 0);
        x.clear();
        Check.due("uses(0) behind clear()", x.uses(0), BAD);
    }

    private static void depth() {
        Check.sentence("Promise 15", "0 of a value or variable, of a CALL 1 more than the greatest of its operands'");
        FunctionRows x = new FunctionRows();
        for (String value : new String[] {"true", "0", "''", "#0", "error"}) {
            Check.due("depth of " + value, x.depth(Check.make(x, value)), 0);
        }
        int one = x.call(0, 4, 0, 0);
        int two = x.call(5, 0, one, 0);
        int three = x.call(5, two, one, 0);
        Check.due("depth of a call of a variable", x.depth(one), 1);
        Check.due("depth of a call of depths 0 and 1", x.depth(two), 2);
        Check.due("depth of a call of depths 2 and 1", x.depth(three), 3);
        Check.due("depth of a call of depths 3, 0, 2", x.depth(x.call(22, three, 0, two)), 4);
        Check.due("depth of a call of depths 0, 3, 2", x.depth(x.call(22, 0, three, two)), 4);
        Check.due("depth of a call of depths 1, 2, 3", x.depth(x.call(22, one, two, three)), 4);
        Check.due("depth of a call of depths 0, 0, 0", x.depth(x.call(22, 0, 1, 2)), 1);
        Check.due("depth of NOT, which takes the first alone", x.depth(x.call(0, 0, three, three)), 1);
        Check.due("depth of +, which takes two", x.depth(x.call(5, 0, one, three)), 2);
    }

    private static void depthGreatest() {
        Check.sentence("Promise 15", "How many CALLS stand within one another in an expression, at most");
        FunctionRows x = new FunctionRows();
        x.leaf(0, 7);
        for (int e = 1; e < 80; e++) {
            x.call(e % 3 == 0 ? 0 : 23, e - 1, e - 1, 0);
            Check.due("depth(" + e + ")", x.depth(e), e);
        }
        Check.due("uses of it", x.uses(79), 128);
        Check.due("run of it", x.run(79), 0);
        x.run(x.size());
        x.clear();
        x.whole(4);
        Check.due("depth of a value behind clear()", x.depth(0), 0);
        x.leaf(0, 1);
        Check.due("depth of a variable where a call was", x.depth(1), 0);
        x.whole(4);
        Check.due("depth of a value where a call was", x.depth(2), 0);
    }

    private static void depthBad() {
        Check.sentence("Promise 15", "BAD.");
        FunctionRows x = withRow();
        for (int e : new int[] {-1, x.size(), 80, 256, Integer.MIN_VALUE, Integer.MAX_VALUE}) {
            Check.due("depth(" + e + ")", x.depth(e), BAD);
            Check.due("depth(" + e + ") of a new object", new FunctionRows().depth(e), BAD);
        }
        Check.due("depth(0) of a new object", new FunctionRows().depth(0), BAD);
        Check.due("depth of the last", x.depth(x.size() - 1), 0);
        x.clear();
        Check.due("depth(0) behind clear()", x.depth(0), BAD);
    }

    /** An object whose expressions 0 to 7 are the variables, each with the one of VALUES of its number. */
    private static FunctionRows withRow() {
        FunctionRows x = new FunctionRows();
        for (int v = 0; v < 8; v++) {
            x.leaf(0, v);
        }
        for (int v = 0; v < 8; v++) {
            x.run(Check.make(x, VALUES[v]));
            x.give(v);
        }
        return x;
    }

    private static void mustBeRow(FunctionRows x, int but, String due) {
        mustBeRow(x, but, due, but, due);
    }

    /** The row of withRow, but for two variables. */
    private static void mustBeRow(FunctionRows x, int but, String due, int butToo, String dueToo) {
        for (int v = 0; v < 8; v++) {
            Check.due("variable " + v, Check.reckoned(x, v), v == but ? due : v == butToo ? dueToo : VALUES[v]);
        }
    }
}
