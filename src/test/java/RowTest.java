/** Promises 8 to 13: what was reckoned latest, and the row that it can be given to. */
public final class RowTest {
    private static final int BAD = FunctionRows.BAD;
    private static final int NO = FunctionRows.NO;
    private static final int[] NO_INDEXES = {-1, 80, Integer.MIN_VALUE, Integer.MAX_VALUE};
    private static final String[] VALUES = {"true", "false", "-2", "1000000000000000", "''", "'abc'z", "#0", "#999"};

    public static void main(String[] args) {
        run();
        sharedParts();
        number();
        tag();
        letter();
        give();
        drop();
        Check.end();
    }

    private static void run() {
        FunctionRows x = new FunctionRows();
        String[] values = {"error", "true", "5", "'ab'", "#3"};
        for (int kind = 0; kind < values.length; kind++) {
            Check.due("run: kind of " + values[kind], x.run(Check.make(x, values[kind])), kind);
        }
        for (int e : NO_INDEXES) {
            Check.due("run " + e, x.run(e), BAD);
            Check.due("run " + e + ": what was reckoned stays", Check.latest(x, 4), "#3");
        }
        Check.due("run: behind the last", x.run(5), BAD);
        Check.due("run: an ERROR too is reckoned", x.run(0), 0);
        Check.due("run: an ERROR too is reckoned", x.number(), NO);
        Check.due("run: making expressions does not reckon", x.whole(8), 5);
        Check.due("run: making expressions does not reckon", x.number(), NO);
    }

    /** Each part is used twice by the next one: reckoned once for each use, this would never end. */
    private static void sharedParts() {
        FunctionRows x = new FunctionRows();
        x.whole(1);
        for (int e = 1; e < 80; e++) {
            x.call(e < 40 ? 5 : 1, e - 1, e - 1, 0);
        }
        Check.due("run: 2 to the 39th", Check.reckoned(x, 39), Long.toString(1L << 39));
        Check.due("run: the 80th", Check.reckoned(x, 79), "true");
        Check.due("run: an earlier one", Check.reckoned(x, 3), "8");
        x.clear();
        x.leaf(0, 4);
        for (int e = 1; e < 80; e++) {
            x.call(22, e - 1, e - 1, e - 1);
        }
        Check.due("run: nothing given", Check.reckoned(x, 79), "error");
    }

    private static void number() {
        FunctionRows x = new FunctionRows();
        Check.due("number: nothing", x.number(), NO);
        long[] due = {1, 0, -2, 1_000_000_000_000_000L, 0, 3, 0, 999};
        for (int i = 0; i < VALUES.length; i++) {
            x.run(Check.make(x, VALUES[i]));
            Check.due("number of " + VALUES[i], x.number(), due[i]);
        }
        x.run(Check.make(x, "error"));
        Check.due("number of an ERROR", x.number(), NO);
    }

    private static void tag() {
        FunctionRows x = new FunctionRows();
        for (String value : VALUES) {
            x.run(Check.make(x, value));
            int due = value.equals("''") ? 0 : value.equals("'abc'z") ? 26 : NO;
            Check.due("tag of " + value, x.tag(), due);
        }
        x.run(Check.make(x, "'q'c"));
        Check.due("tag c", x.tag(), 3);
        x.run(Check.make(x, "error"));
        Check.due("tag of an ERROR", x.tag(), NO);
    }

    private static void letter() {
        FunctionRows x = new FunctionRows();
        x.run(Check.make(x, "' bcdefghijklmnopqrstuvw~'"));
        Check.due("letter: first", x.letter(0), 32);
        Check.due("letter: second", x.letter(1), 'b');
        Check.due("letter: 24th", x.letter(23), 126);
        Check.due("letter: 25th", x.letter(24), NO);
        for (int i : NO_INDEXES) {
            Check.due("letter " + i, x.letter(i), NO);
        }
        x.run(Check.make(x, "'ab'"));
        Check.due("letter: of a shorter text", x.letter(2), NO);
        x.run(Check.make(x, "''"));
        Check.due("letter: of an empty text", x.letter(0), NO);
        for (String value : new String[] {"true", "7", "#7", "error"}) {
            x.run(Check.make(x, "'ab'"));
            x.run(Check.make(x, value));
            Check.due("letter of " + value, x.letter(0), NO);
        }
    }

    private static void give() {
        FunctionRows x = new FunctionRows();
        for (int v : new int[] {-1, 8, Integer.MIN_VALUE, Integer.MAX_VALUE}) {
            Check.due("give " + v + ", nothing reckoned", x.give(v), BAD);
        }
        for (int v = 0; v < 8; v++) {
            x.leaf(0, v);
        }
        for (int v = 0; v < 8; v++) {
            Check.due("give: an ERROR before", x.run(v), 0);
            Check.due("give: an ERROR", x.give(v), NO);
            x.run(Check.make(x, VALUES[v]));
            Check.due("give " + v, x.give(v), 1);
        }
        Check.due("give 8", x.give(8), BAD);
        for (int v = 0; v < 8; v++) {
            Check.due("give: variable " + v, Check.reckoned(x, v), VALUES[v]);
        }
        x.run(x.call(8, 2, 4, 0));
        Check.due("give: an ERROR to a variable with a value", x.give(2), NO);
        Check.due("give: it stays", Check.reckoned(x, 2), "-2");
        int sum = x.call(5, 2, 2, 0);
        Check.due("give: reckoned with the row", Check.reckoned(x, sum), "-4");
        Check.due("give: of what a variable took part in", x.give(2), 1);
        Check.due("give: what was reckoned stays", x.number(), -4);
        Check.due("give: reckoned anew", Check.reckoned(x, sum), "-8");
        Check.due("give: the row holds what was given", Check.reckoned(x, 2), "-4");
        x.run(5);
        Check.due("give: one variable's value to another one", x.give(6), 1);
        x.drop(5);
        Check.due("give: and it is not the first one's", Check.reckoned(x, 6), "'abc'z");
        Check.due("give: a shorter text over a longer one", x.run(4), 3);
        x.give(6);
        Check.due("give: a shorter text over a longer one", Check.reckoned(x, 6), "''");
    }

    private static void drop() {
        FunctionRows x = new FunctionRows();
        for (int v : new int[] {-1, 8, Integer.MIN_VALUE, Integer.MAX_VALUE}) {
            Check.due("drop " + v, x.drop(v), BAD);
        }
        int variable = x.leaf(0, 0);
        x.run(Check.make(x, "false"));
        x.give(0);
        x.give(7);
        Check.due("drop: reckoned latest is another thing", x.run(variable), 1);
        Check.due("drop: given", x.drop(0), 1);
        Check.due("drop: what was reckoned stays", Check.latest(x, 1), "false");
        Check.due("drop: not given any more", x.drop(0), 0);
        Check.due("drop: no value", x.run(variable), 0);
        Check.due("drop: the others stay", x.drop(7), 1);
    }
}
