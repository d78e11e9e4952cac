/** Promises 1 to 7, 16 and 17: how the tape and the expressions grow, and what is refused. */
public final class ExpressionsTest {
    private static final int BAD = FunctionRows.BAD;
    private static final int FULL = FunctionRows.FULL;
    private static final long GREATEST = 1_000_000_000_000_000L;
    private static final String TWENTY_FOUR = "abcdefghijklmnopqrstuvwx";
    private static final int[] TAKEN = {
        1, 2, 2, 2, 2, 2, 2, 2, 2, 2, 1, 3, 1, 1, 2, 2, 2, 2, 2, 2, 1, 1, 3, 2, 1, 1, 1, 2, 3, 3
    };

    public static void main(String[] args) {
        newObject();
        type();
        text();
        whole();
        leaf();
        call();
        takes();
        full();
        clear();
        Check.end();
    }

    private static void newObject() {
        FunctionRows x = new FunctionRows();
        Check.due("new: size", x.size(), 0);
        Check.due("new: run(0)", x.run(0), BAD);
        Check.due("new: number", x.number(), FunctionRows.NO);
        Check.due("new: tag", x.tag(), FunctionRows.NO);
        Check.due("new: letter", x.letter(0), FunctionRows.NO);
        Check.due("new: give", x.give(0), FunctionRows.NO);
        for (int v = 0; v < 8; v++) {
            Check.due("new: drop " + v, x.drop(v), 0);
        }
        Check.due("new: clear", x.clear(), 0);
        Check.due("new: the tape is empty", Check.reckoned(x, x.text(0)), "''");
    }

    private static void type() {
        FunctionRows x = new FunctionRows();
        int[] wrongLengths = {0, -1, 9, Integer.MIN_VALUE, Integer.MAX_VALUE};
        for (int n : wrongLengths) {
            Check.due("type: n " + n, x.type(0x4141414141414141L, n), BAD);
        }
        Check.due("type: a byte 31", x.type(31, 1), BAD);
        Check.due("type: a byte 127", x.type(127, 1), BAD);
        Check.due("type: a byte 0", x.type(0x41, 2), BAD);
        Check.due("type: a byte 255", x.type(-1, 8), BAD);
        Check.due("type: the highest of 8 is wrong", x.type(0x1F41414141414141L, 8), BAD);
        Check.due("type: a byte 32 and one 126", x.type(0x207E, 2), 2);
        Check.due("type: bytes above the lowest n are not looked at", x.type(0x0141, 1), 3);
        Check.due("type: 8 bytes", Check.type(x, "12345678"), 11);
        Check.due("type: order", Check.reckoned(x, x.text(0)), "' ~A12345678'");
        for (int i = 1; i <= 5; i++) {
            Check.due("type: many", Check.type(x, "abcdefgh"), 8 * i);
        }
        Check.due("type: 47", Check.type(x, "1234567"), 47);
        Check.due("type: no room for two", Check.type(x, "12"), FULL);
        Check.due("type: BAD when there is no room", x.type(5, 8), BAD);
        Check.due("type: nothing came", Check.type(x, "z"), 48);
        Check.due("type: a full tape", Check.type(x, "z"), FULL);
        Check.due("type: a full tape is no text", x.text(0), BAD);
        Check.due("type: and is empty then", Check.type(x, "z"), 1);
    }

    private static void text() {
        FunctionRows x = new FunctionRows();
        Check.due("text: of an empty tape", x.text(0), 0);
        Check.due("text: of 24 bytes", Check.text(x, TWENTY_FOUR, 26), 1);
        Check.due("text: of 24 bytes", Check.reckoned(x, 1), "'" + TWENTY_FOUR + "'z");
        Check.due("text: of 25 bytes", Check.text(x, TWENTY_FOUR + "y", 0), BAD);
        Check.due("text: the tape is empty behind BAD", Check.type(x, "a"), 1);
        Check.due("text: tag 27", x.text(27), BAD);
        Check.due("text: the tape is empty behind a wrong tag", Check.type(x, "b"), 1);
        Check.due("text: tag -1", x.text(-1), BAD);
        Check.due("text: least tag", x.text(Integer.MIN_VALUE), BAD);
        Check.due("text: greatest tag", x.text(Integer.MAX_VALUE), BAD);
        Check.due("text: BAD makes nothing", x.size(), 2);
        Check.due("text: next", Check.text(x, "q", 1), 2);
        Check.due("text: next", Check.reckoned(x, 2), "'q'a");
        Check.due("text: the first one stays", Check.reckoned(x, 0), "''");
        Check.due("text: the tape is empty behind a number", Check.reckoned(x, x.text(2)), "''b");
    }

    private static void whole() {
        FunctionRows x = new FunctionRows();
        Check.due("whole: greatest", x.whole(GREATEST), 0);
        Check.due("whole: smallest", x.whole(-GREATEST), 1);
        Check.due("whole: beyond", x.whole(GREATEST + 1), BAD);
        Check.due("whole: below", x.whole(-GREATEST - 1), BAD);
        Check.due("whole: a long's greatest", x.whole(Long.MAX_VALUE), BAD);
        Check.due("whole: a long's smallest", x.whole(Long.MIN_VALUE), BAD);
        Check.due("whole: BAD makes nothing", x.whole(0), 2);
        Check.due("whole: greatest", Check.reckoned(x, 0), "1000000000000000");
        Check.due("whole: smallest", Check.reckoned(x, 1), "-1000000000000000");
        Check.due("whole: 0", Check.reckoned(x, 2), "0");
    }

    private static void leaf() {
        FunctionRows x = new FunctionRows();
        int[][] wrong = {
            {1, 2}, {1, -1}, {4, 1000}, {4, -1}, {0, 8}, {0, -1}, {2, 0}, {3, 0}, {5, 0}, {-1, 0}, {-1, -1},
            {Integer.MAX_VALUE, 0}, {Integer.MIN_VALUE, 0}, {0, Integer.MAX_VALUE}, {4, Integer.MIN_VALUE}
        };
        for (int[] w : wrong) {
            Check.due("leaf " + w[0] + " " + w[1], x.leaf(w[0], w[1]), BAD);
        }
        Check.due("leaf: false", x.leaf(1, 0), 0);
        Check.due("leaf: true", x.leaf(1, 1), 1);
        Check.due("leaf: node 0", x.leaf(4, 0), 2);
        Check.due("leaf: node 999", x.leaf(4, 999), 3);
        Check.due("leaf: variable 0", x.leaf(0, 0), 4);
        Check.due("leaf: variable 7", x.leaf(0, 7), 5);
        String[] due = {"false", "true", "#0", "#999", "error", "error"};
        for (int e = 0; e < due.length; e++) {
            Check.due("leaf: run " + e, Check.reckoned(x, e), due[e]);
        }
    }

    private static void call() {
        FunctionRows x = new FunctionRows();
        Check.due("call: no expression yet", x.call(0, 0, 0, 0), BAD);
        x.whole(1);
        for (int operation = 0; operation < TAKEN.length; operation++) {
            String what = "call: operation " + operation;
            int taken = TAKEN[operation];
            int here = x.size();
            Check.due(what + ", a is itself", x.call(operation, here, 0, 0), BAD);
            Check.due(what + ", a is -1", x.call(operation, -1, 0, 0), BAD);
            Check.due(what + ", b behind", x.call(operation, 0, here, 0), taken > 1 ? BAD : here);
            here = x.size();
            Check.due(what + ", c behind", x.call(operation, 0, 0, here), taken > 2 ? BAD : here);
            here = x.size();
            if (taken < 3) {
                x.clear();
                x.whole(1);
                here = 1;
            }
            Check.due(what + ", taken", x.call(operation, 0, taken > 1 ? 0 : -5, taken > 2 ? 0 : 999), here);
        }
        Check.due("call: no operation 30", x.call(30, 0, 0, 0), BAD);
        Check.due("call: no operation -1", x.call(-1, 0, 0, 0), BAD);
        Check.due("call: least", x.call(Integer.MIN_VALUE, 0, 0, 0), BAD);
        Check.due("call: greatest operands", x.call(5, 0, Integer.MAX_VALUE, 0), BAD);
        Check.due("call: least operands", x.call(5, Integer.MIN_VALUE, 0, 0), BAD);
    }

    private static void takes() {
        FunctionRows x = new FunctionRows();
        for (int operation = 0; operation < TAKEN.length; operation++) {
            Check.due("takes " + operation, x.takes(operation), TAKEN[operation]);
        }
        Check.due("takes -1", x.takes(-1), BAD);
        Check.due("takes 30", x.takes(30), BAD);
        Check.due("takes least", x.takes(Integer.MIN_VALUE), BAD);
        Check.due("takes greatest", x.takes(Integer.MAX_VALUE), BAD);
    }

    private static void full() {
        FunctionRows x = new FunctionRows();
        for (int i = 0; i < 79; i++) {
            Check.due("full: whole", x.whole(i), i);
        }
        Check.due("full: the 80th", x.call(5, 77, 78, 0), 79);
        Check.due("full: whole", x.whole(5), FULL);
        Check.due("full: leaf", x.leaf(1, 1), FULL);
        Check.due("full: call", x.call(5, 1, 2, 0), FULL);
        Check.type(x, "abc");
        Check.due("full: text", x.text(0), FULL);
        Check.due("full: the tape is empty then", Check.type(x, "d"), 1);
        Check.due("full: BAD comes before, text", x.text(27), BAD);
        Check.due("full: BAD comes before, whole", x.whole(GREATEST + 1), BAD);
        Check.due("full: BAD comes before, leaf", x.leaf(3, 1), BAD);
        Check.due("full: BAD comes before, call", x.call(5, 1, 80, 0), BAD);
        Check.due("full: size", x.size(), 80);
        Check.due("full: the 80th", Check.reckoned(x, 79), "155");
        Check.due("full: behind it", x.run(80), BAD);
        Check.due("full: all stay", Check.reckoned(x, 0), "0");
    }

    private static void clear() {
        FunctionRows x = new FunctionRows();
        int one = x.whole(41);
        x.run(one);
        x.give(3);
        x.run(Check.text(x, "abc", 5));
        Check.due("clear: the tape before", Check.type(x, "xy"), 2);
        Check.due("clear: size before", x.size(), 2);
        Check.due("clear", x.clear(), 2);
        Check.due("clear: size", x.size(), 0);
        Check.due("clear: again", x.clear(), 0);
        Check.due("clear: no expressions, run", x.run(0), BAD);
        Check.due("clear: no expressions, uses", x.uses(0), BAD);
        Check.due("clear: no expressions, depth", x.depth(0), BAD);
        Check.due("clear: no expressions, call", x.call(0, 0, 0, 0), BAD);
        Check.due("clear: the tape stays", Check.type(x, "z"), 3);
        Check.due("clear: numbers begin anew", x.text(0), 0);
        Check.due("clear: what was reckoned stays", Check.latest(x, 3), "'abc'e");
        Check.due("clear: the row stays", Check.reckoned(x, x.leaf(0, 3)), "41");
        x.clear();
        Check.due("clear: a variable where a text was", Check.reckoned(x, x.leaf(0, 2)), "error");
        Check.due("clear: a whole where a variable was", Check.reckoned(x, x.whole(6)), "6");
        Check.due("clear: the row is not written to", Check.reckoned(x, x.leaf(0, 3)), "41");
        x.clear();
        x.whole(5);
        x.call(5, 0, 0, 0);
        x.clear();
        Check.due("clear: a text where a variable was", Check.reckoned(x, Check.text(x, "k", 0)), "'k'");
        Check.due("clear: a variable where a call was", Check.reckoned(x, x.leaf(0, 3)), "41");
        Check.due("clear: size", x.size(), 2);
    }
}
