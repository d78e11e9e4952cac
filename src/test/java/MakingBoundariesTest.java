/** The boundaries of promises 4 to 7, 16 and 17, sentence by sentence: how expressions are made and cleared. */
public final class MakingBoundariesTest {
    private static final int BAD = FunctionRows.BAD;
    private static final int FULL = FunctionRows.FULL;
    private static final long GREATEST = 1_000_000_000_000_000L;
    private static final int OPERATIONS = 30;
    private static final int[] TAKEN = {
        1, 2, 2, 2, 2, 2, 2, 2, 2, 2, 1, 3, 1, 1, 2, 2, 2, 2, 2, 2, 1, 1, 3, 2, 1, 1, 1, 2, 3, 3
    };

    public static void main(String[] args) {
        wholeBad();
        wholeFull();
        leafTruths();
        leafNodes();
        leafVariables();
        leafKinds();
        leafFull();
        callOperations();
        callOperands();
        callOperandsNotTaken();
        callIsNotItsOwnOperand();
        callFull();
        takes();
        mostExpressions();
        clearCounts();
        clearNoExpressions();
        clearRoomIsUsedAgain();
        clearRowStays();
        clearReckonedStays();
        clearTapeStays();
        size();
        manyCalls();
        Check.end();
    }

    private static void wholeBad() {
        Check.sentence("Promise 4 and Terms", "a WHOLE number, -10^15 to 10^15");
        long[] wholes = {GREATEST, GREATEST - 1, 1L << 32, 1, 0, -1, -(1L << 32), -GREATEST + 1, -GREATEST};
        long[] others = {
            GREATEST + 1, -GREATEST - 1, GREATEST + 2, -GREATEST - 2, 10 * GREATEST, Long.MAX_VALUE, Long.MIN_VALUE,
            Long.MIN_VALUE + 1
        };
        FunctionRows x = new FunctionRows();
        for (int i = 0; i < wholes.length; i++) {
            for (long other : others) {
                Check.due("whole(" + other + ")", x.whole(other), BAD);
            }
            Check.due("size() behind BAD", x.size(), i);
            Check.due("whole(" + wholes[i] + ")", x.whole(wholes[i]), i);
            Check.due("what it is", Check.reckoned(x, i), Long.toString(wholes[i]));
        }
    }

    private static void wholeFull() {
        Check.sentence("Promise 4", "FULL");
        FunctionRows x = filled(79);
        Check.due("the 80th", x.whole(GREATEST), 79);
        Check.due("the 81st", x.whole(1), FULL);
        Check.due("the 81st that is none", x.whole(GREATEST + 1), BAD);
        Check.due("size()", x.size(), 80);
        Check.due("the 80th stays", Check.reckoned(x, 79), "1000000000000000");
    }

    private static void leafTruths() {
        Check.sentence("Promise 5", "A TRUTH (kind = 1, v 0 or 1)");
        leaves(1, 1, "false", "true");
    }

    private static void leafNodes() {
        Check.sentence("Promise 5", "NODE (4)");
        leaves(4, 999, "#0", "#999");
        Check.sentence("Terms", "a NODE 0 .. 999");
        for (int v = 0; v <= 999; v++) {
            FunctionRows x = new FunctionRows();
            Check.due("node " + v, Check.reckoned(x, x.leaf(4, v)), "#" + v);
        }
    }

    private static void leafVariables() {
        Check.sentence("Promise 5", "or variable (0): its number");
        leaves(0, 7, "error", "error");
        FunctionRows x = new FunctionRows();
        for (int v = 0; v < 8; v++) {
            x.run(x.whole(100 + v));
            Check.due("give(" + v + ")", x.give(v), 1);
        }
        for (int v = 0; v < 8; v++) {
            Check.due("variable " + v, Check.reckoned(x, x.leaf(0, v)), Integer.toString(100 + v));
        }
    }

    /** The first and last of a kind, which are made, and what is beyond them, which is not. */
    private static void leaves(int kind, int last, String firstDue, String lastDue) {
        FunctionRows x = new FunctionRows();
        for (int v : new int[] {-1, last + 1, -last, 256, Integer.MIN_VALUE, Integer.MAX_VALUE}) {
            if (v < 0 || v > last) {
                Check.due("leaf(" + kind + ", " + v + ")", x.leaf(kind, v), BAD);
            }
        }
        Check.due("size() behind BAD", x.size(), 0);
        Check.due("leaf(" + kind + ", 0)", x.leaf(kind, 0), 0);
        Check.due("leaf(" + kind + ", " + last + ")", x.leaf(kind, last), 1);
        Check.due("what the first is", Check.reckoned(x, 0), firstDue);
        Check.due("what the last is", Check.reckoned(x, 1), lastDue);
    }

    private static void leafKinds() {
        Check.sentence("Promise 5", "BAD: another kind, or v is none such");
        FunctionRows x = new FunctionRows();
        for (int kind : new int[] {-1, 2, 3, 5, 6, 256, 257, 260, Integer.MIN_VALUE, Integer.MAX_VALUE}) {
            for (int v : new int[] {-1, 0, 1, 7, 999, Integer.MIN_VALUE, Integer.MAX_VALUE}) {
                Check.due("leaf(" + kind + ", " + v + ")", x.leaf(kind, v), BAD);
            }
        }
        Check.due("leaf(1, 2), a variable's and a node's", x.leaf(1, 2), BAD);
        Check.due("leaf(0, 8), a node's", x.leaf(0, 8), BAD);
        Check.due("size()", x.size(), 0);
    }

    private static void leafFull() {
        Check.sentence("Promise 5", "FULL");
        int[][] leaves = {{1, 0}, {1, 1}, {4, 0}, {4, 999}, {0, 0}, {0, 7}};
        for (int[] leaf : leaves) {
            FunctionRows x = filled(79);
            String what = "leaf(" + leaf[0] + ", " + leaf[1] + ")";
            Check.due(what + ", the 80th", x.leaf(leaf[0], leaf[1]), 79);
            Check.due(what + ", the 81st", x.leaf(leaf[0], leaf[1]), FULL);
            Check.due("size()", x.size(), 80);
            Check.due("the 80th stays", x.run(79), leaf[0]);
            Check.due("leaf(" + leaf[0] + ", -1), the 81st", x.leaf(leaf[0], -1), BAD);
            Check.due("leaf(" + leaf[0] + ", 1000), the 81st", x.leaf(leaf[0], 1000), BAD);
            Check.due("leaf(3, 0), the 81st", x.leaf(3, 0), BAD);
        }
    }

    private static void callOperations() {
        Check.sentence("Promise 6", "BAD: no such operation");
        FunctionRows x = filled(3);
        for (int operation : new int[] {-1, -30, 30, 31, 256, Integer.MIN_VALUE, Integer.MAX_VALUE}) {
            Check.due("call of " + operation, x.call(operation, 0, 1, 2), BAD);
        }
        Check.due("size() behind BAD", x.size(), 3);
        Check.due("call of 0", x.call(0, 0, 1, 2), 3);
        Check.due("call of 29", x.call(29, 0, 1, 2), 4);
        Check.due("what NOT of 0 is", Check.reckoned(x, 3), "true");
        Check.due("what IN of 0 1 2 is", Check.reckoned(x, 4), "false");
    }

    /** Each operand of each operation at both ends of what there is. */
    private static void callOperands() {
        Check.sentence("Promise 6", "BAD: no such [..] expression");
        for (int operation = 0; operation < OPERATIONS; operation++) {
            FunctionRows x = filled(5);
            for (int place = 0; place < TAKEN[operation]; place++) {
                for (int e : new int[] {-1, 5, 6, 79, 80, 256, 261, Integer.MIN_VALUE, Integer.MAX_VALUE}) {
                    int[] operands = {2, 2, 2};
                    operands[place] = e;
                    String what = "call of " + operation + " with operand " + place + " " + e;
                    Check.due(what, x.call(operation, operands[0], operands[1], operands[2]), BAD);
                }
            }
            Check.due("size() behind BAD", x.size(), 5);
            Check.due("call of " + operation + " with 0", x.call(operation, 0, 0, 0), 5);
            Check.due("call of " + operation + " with the last", x.call(operation, 5, 5, 5), 6);
        }
    }

    private static void callOperandsNotTaken() {
        Check.sentence("Promise 6", "operands that it does not take are not looked at");
        for (int operation = 0; operation < OPERATIONS; operation++) {
            for (int e : new int[] {-1, 1, 2, 80, Integer.MIN_VALUE, Integer.MAX_VALUE}) {
                FunctionRows x = filled(1);
                int b = TAKEN[operation] > 1 ? 0 : e;
                int c = TAKEN[operation] > 2 ? 0 : e;
                Check.due("call(" + operation + ", 0, " + b + ", " + c + ")", x.call(operation, 0, b, c), 1);
            }
        }
        FunctionRows x = filled(4);
        x.leaf(0, 6);
        Check.due("NOT with an ERROR that it does not take", Check.reckoned(x, x.call(0, 1, 4, 4)), "false");
        Check.due("+ with an ERROR that it does not take", Check.reckoned(x, x.call(5, 1, 2, 4)), "3");
    }

    private static void callIsNotItsOwnOperand() {
        Check.sentence("Terms", "CALLS of an OPERATION with earlier expressions");
        FunctionRows x = new FunctionRows();
        Check.due("the first one with itself", x.call(0, 0, 0, 0), BAD);
        x.whole(1);
        Check.due("the second one with itself", x.call(0, 1, 0, 0), BAD);
        Check.due("the second one with the first", x.call(0, 0, 0, 0), 1);
        Check.due("the third one with the second", x.call(0, 1, 0, 0), 2);
        Check.due("what it is", Check.reckoned(x, 2), "true");
    }

    private static void callFull() {
        Check.sentence("Promise 6", "FULL");
        for (int operation = 0; operation < OPERATIONS; operation++) {
            FunctionRows x = filled(79);
            Check.due("call of " + operation + ", the 80th", x.call(operation, 78, 78, 78), 79);
            int kind = x.run(79);
            Check.due("call of " + operation + ", the 81st", x.call(operation, 0, 1, 79), FULL);
            Check.due("size()", x.size(), 80);
            Check.due("the 80th stays", x.run(79), kind);
            Check.due("call of " + operation + " with no such expression", x.call(operation, 80, 80, 80), BAD);
            Check.due("call of no operation", x.call(30, 0, 0, 0), BAD);
        }
    }

    private static void takes() {
        Check.sentence("Promise 7", "How many operands an operation takes.");
        FunctionRows x = new FunctionRows();
        for (int operation = 0; operation < OPERATIONS; operation++) {
            Check.due("takes(" + operation + ")", x.takes(operation), TAKEN[operation]);
        }
        Check.sentence("Promise 7", "BAD");
        for (int operation : new int[] {-1, 30, 31, 256, Integer.MIN_VALUE, Integer.MAX_VALUE}) {
            Check.due("takes(" + operation + ")", x.takes(operation), BAD);
        }
        Check.due("size()", x.size(), 0);
    }

    private static void mostExpressions() {
        Check.sentence("Terms", "EXPRESSIONS are numbered from 0, at most 80");
        FunctionRows x = new FunctionRows();
        for (int e = 0; e < 80; e++) {
            Check.due("number " + e, e % 2 == 0 ? x.whole(e) : x.call(5, e - 1, 0, 0), e);
        }
        Check.due("text, the 81st", x.text(0), FULL);
        Check.due("whole, the 81st", x.whole(0), FULL);
        Check.due("leaf, the 81st", x.leaf(1, 0), FULL);
        Check.due("call, the 81st", x.call(0, 0, 0, 0), FULL);
        for (int e = 0; e < 80; e++) {
            Check.due("the kind of " + e, x.run(e), 2);
            Check.due("what " + e + " is", x.number(), e - e % 2);
        }
        Check.due("run(80)", x.run(80), BAD);
        Check.due("clear()", x.clear(), 80);
        Check.due("again from 0", x.whole(7), 0);
    }

    private static void clearCounts() {
        Check.sentence("Promise 16", "No expressions: how many there were");
        for (int size : new int[] {0, 1, 2, 79, 80}) {
            FunctionRows x = filled(size);
            Check.due("clear() of " + size, x.clear(), size);
            Check.due("clear() again", x.clear(), 0);
        }
        FunctionRows x = filled(80);
        x.whole(5);
        Check.due("clear() behind FULL", x.clear(), 80);
    }

    private static void clearNoExpressions() {
        Check.sentence("Promise 16", "No expressions");
        FunctionRows x = filled(80);
        x.clear();
        Check.due("size()", x.size(), 0);
        for (int e : new int[] {0, 1, 79, 80}) {
            Check.due("run(" + e + ")", x.run(e), BAD);
            Check.due("uses(" + e + ")", x.uses(e), BAD);
            Check.due("depth(" + e + ")", x.depth(e), BAD);
            Check.due("call of " + e, x.call(0, e, 0, 0), BAD);
        }
        Check.due("the next one", x.whole(3), 0);
        Check.due("the one behind it", x.run(1), BAD);
    }

    /** An expression of each form where one of each form was: nothing of the earlier one is left. */
    private static void clearRoomIsUsedAgain() {
        Check.sentence("Promise 16", "No expressions");
        String[] forms = {"'abcdef'k", "-7", "true", "#8", "error", "call"};
        for (String earlier : forms) {
            for (String later : forms) {
                FunctionRows x = new FunctionRows();
                x.run(x.whole(41));
                x.give(2);
                x.clear();
                x.leaf(0, 2);
                Check.due("the earlier one's number", makeForm(x, earlier), 1);
                x.run(1);
                Check.due("clear()", x.clear(), 2);
                x.whole(5);
                Check.due("the later one's number", makeForm(x, later), 1);
                String what = later + " where " + earlier + " was";
                Check.due(what, Check.reckoned(x, 1), later.equals("call") ? "10" : later);
                Check.due("uses of " + what, x.uses(1), later.equals("error") ? 128 : 0);
                Check.due("depth of " + what, x.depth(1), later.equals("call") ? 1 : 0);
                Check.due("variable 2 behind it", Check.reckoned(x, x.leaf(0, 2)), "41");
                Check.due("variable 7 behind it", Check.reckoned(x, x.leaf(0, 7)), "error");
            }
        }
    }

    private static int makeForm(FunctionRows x, String form) {
        return form.equals("call") ? x.call(5, 0, 0, 0) : Check.make(x, form);
    }

    private static void clearRowStays() {
        Check.sentence("Promise 16", "the row [..] stay");
        String[] values = {"true", "false", "-1000000000000000", "#9", "''", "'abcdefghijklmnopqrstuvwx'z", "0", "#0"};
        FunctionRows x = new FunctionRows();
        for (int v = 0; v < values.length; v++) {
            x.run(Check.make(x, values[v]));
            x.give(v);
        }
        x.clear();
        for (int e = 0; e < 10; e++) {
            Check.text(x, "other", 1);
        }
        x.clear();
        for (int v = 0; v < values.length; v++) {
            Check.due("variable " + v, Check.reckoned(x, x.leaf(0, v)), values[v]);
        }
        FunctionRows y = filled(80);
        y.clear();
        for (int v = 0; v < 8; v++) {
            Check.due("variable " + v + ", which was given none", Check.reckoned(y, y.leaf(0, v)), "error");
        }
    }

    private static void clearReckonedStays() {
        Check.sentence("Promise 16", "and what was reckoned, stay");
        String[] values = {"error", "true", "false", "-7", "#5", "''b", "'abcdefghijklmnopqrstuvwx'z"};
        for (String value : values) {
            FunctionRows x = new FunctionRows();
            int kind = x.run(Check.make(x, value));
            x.clear();
            Check.due("the latest", Check.latest(x, kind), value);
            Check.text(x, "other", 1);
            Check.due("the latest, with a new expression of that number", Check.latest(x, kind), value);
            Check.due("give(3)", x.give(3), kind == 0 ? FunctionRows.NO : 1);
            Check.due("variable 3", Check.reckoned(x, x.leaf(0, 3)), value);
        }
        FunctionRows x = filled(2);
        x.clear();
        Check.due("the latest, when nothing was reckoned", x.number(), FunctionRows.NO);
    }

    private static void clearTapeStays() {
        Check.sentence("Promise 16", "No expressions: how many there were");
        FunctionRows x = filled(2);
        Check.type(x, "ab");
        Check.due("clear()", x.clear(), 2);
        Check.due("type of one behind what the tape had", Check.type(x, "c"), 3);
        Check.due("the tape", Check.reckoned(x, x.text(0)), "'abc'");
    }

    private static void size() {
        Check.sentence("Promise 17", "How many expressions there are.");
        FunctionRows x = new FunctionRows();
        for (int e = 0; e < 80; e++) {
            Check.due("size() of " + e, x.size(), e);
            x.whole(e);
        }
        Check.due("size() of 80", x.size(), 80);
        x.whole(5);
        Check.due("size() behind FULL", x.size(), 80);
        x.clear();
        Check.due("size() behind clear()", x.size(), 0);
        x.whole(GREATEST + 1);
        Check.due("size() behind BAD", x.size(), 0);
        Check.due("the next one", x.leaf(0, 0), 0);
        x.run(0);
        x.drop(0);
        Check.due("size() behind run and drop", x.size(), 1);
    }

    private static void manyCalls() {
        Check.sentence("What it is", "An object is used for at most 512 calls after it has been made");
        FunctionRows x = new FunctionRows();
        for (int calls = 0; calls < 504; calls += 8) {
            Check.type(x, "abcdefgh");
            int e = x.text(calls % 27);
            x.run(e);
            x.give(calls % 8);
            x.call(14, e, e, 0);
            x.clear();
            x.leaf(0, calls % 8);
            x.size();
        }
        Check.due("call 505, run", x.run(0), 3);
        Check.due("call 506, number", x.number(), 8);
        Check.due("call 507, tag", x.tag(), 496 % 27);
        Check.due("call 508, letter", x.letter(7), 'h');
        Check.due("call 509, call", x.call(10, 0, 0, 0), 1);
        Check.due("call 510, run", x.run(1), 2);
        Check.due("call 511, number", x.number(), 8);
        Check.due("call 512, clear", x.clear(), 2);
    }

    private static FunctionRows filled(int size) {
        FunctionRows x = new FunctionRows();
        for (int i = 0; i < size; i++) {
            x.whole(i);
        }
        return x;
    }
}
