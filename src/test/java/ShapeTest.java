/** Promises 14 and 15: the variables in an expression, and how deep its calls stand. */
public final class ShapeTest {
    private static final int BAD = FunctionRows.BAD;

    public static void main(String[] args) {
        leaves();
        calls();
        operandsThatAreNotTaken();
        deep();
        Check.end();
    }

    private static void leaves() {
        FunctionRows x = new FunctionRows();
        for (int e : new int[] {-1, 0, 80, Integer.MIN_VALUE, Integer.MAX_VALUE}) {
            Check.due("uses " + e, x.uses(e), BAD);
            Check.due("depth " + e, x.depth(e), BAD);
        }
        for (int v = 0; v < 8; v++) {
            int e = x.leaf(0, v);
            Check.due("uses: variable " + v, x.uses(e), 1 << v);
            Check.due("depth: variable " + v, x.depth(e), 0);
        }
        for (String value : new String[] {"true", "5", "'a'", "#4"}) {
            int e = Check.make(x, value);
            Check.due("uses " + value, x.uses(e), 0);
            Check.due("depth " + value, x.depth(e), 0);
        }
    }

    private static void calls() {
        FunctionRows x = new FunctionRows();
        int none = x.whole(1);
        int one = x.leaf(0, 0);
        int two = x.leaf(0, 5);
        int three = x.leaf(0, 7);
        int sum = x.call(5, none, two, 0);
        int given = x.call(24, three, 0, 0);
        int choice = x.call(22, sum, given, one);
        int same = x.call(3, none, none, 0);
        int last = x.call(23, same, choice, 0);
        Check.due("uses: one of two", x.uses(sum), 32);
        Check.due("uses: GIVEN", x.uses(given), 128);
        Check.due("uses: all three, looked at or not", x.uses(choice), 32 + 128 + 1);
        Check.due("uses: none", x.uses(same), 0);
        Check.due("uses: in those in it", x.uses(last), 32 + 128 + 1);
        Check.due("depth: one", x.depth(sum), 1);
        Check.due("depth: two", x.depth(choice), 2);
        Check.due("depth: three", x.depth(last), 3);
        Check.due("depth: the deepest is the third", x.depth(x.call(29, none, one, last)), 4);
        Check.due("depth: the deepest is the first", x.depth(x.call(29, last, one, sum)), 4);
        Check.due("depth: the deepest is the second", x.depth(x.call(29, one, choice, sum)), 3);
        x.run(none);
        x.give(0);
        Check.due("uses: whatever the row gives", x.uses(choice), 32 + 128 + 1);
        Check.due("uses: behind the last", x.uses(x.size()), BAD);
        Check.due("depth: behind the last", x.depth(x.size()), BAD);
    }

    private static void operandsThatAreNotTaken() {
        FunctionRows x = new FunctionRows();
        int plain = x.whole(1);
        int variable = x.leaf(0, 1);
        int deep = x.call(0, variable, 0, 0);
        Check.due("uses: one operand taken", x.uses(x.call(0, plain, deep, deep)), 0);
        Check.due("uses: two operands taken", x.uses(x.call(5, plain, plain, deep)), 0);
        Check.due("depth: one operand taken", x.depth(x.call(0, plain, deep, deep)), 1);
        Check.due("depth: two operands taken", x.depth(x.call(5, plain, plain, deep)), 1);
    }

    private static void deep() {
        FunctionRows x = new FunctionRows();
        x.leaf(0, 6);
        for (int e = 1; e < 80; e++) {
            x.call(0, e - 1, 0, 0);
        }
        Check.due("depth: of the 80th", x.depth(79), 79);
        Check.due("uses: of the 80th", x.uses(79), 64);
        x.clear();
        x.whole(3);
        Check.due("depth: of a value where a variable was", x.depth(0), 0);
        Check.due("uses: of a value where a variable was", x.uses(0), 0);
        x.leaf(0, 2);
        Check.due("depth: of a variable where a call was", x.depth(1), 0);
        Check.due("uses: of a variable where a call was", x.uses(1), 4);
        x.whole(3);
        Check.due("depth: of a value where a call was", x.depth(2), 0);
        Check.due("uses: of a value where a call was", x.uses(2), 0);
    }
}
