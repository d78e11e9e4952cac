import java.util.HashMap;
import java.util.Map;

/**
 * What the tests share: counting wrong answers, and values written as texts.
 * Notation: true, false; -12; 'bytes' and behind it a tag's letter, if any; #7; error, which is a variable without a
 * value where it is an operand, or 1/0, which is a call.
 */
final class Check {
    private static final int UNGIVEN = 7;
    private static final int GIVEN = 24;
    private static final Map<Integer, String[]> EARLIER = new HashMap<>();
    private static final Map<Integer, String[]> SOUND = new HashMap<>();
    private static int wrong;
    private static String sentence = "";
    private static boolean checked = true;

    private Check() {
    }

    /** All checks until the next sentence are for this one: where the document says it, and its words there. */
    static void sentence(String where, String words) {
        mustHaveChecked();
        sentence = where + ", \"" + words + "\": ";
        checked = false;
    }

    private static void mustHaveChecked() {
        if (!checked) {
            wrong++;
            System.out.println(sentence + "no test");
        }
    }

    static void due(String what, long got, long want) {
        due(what, Long.toString(got), Long.toString(want));
    }

    static void due(String what, String got, String want) {
        checked = true;
        if (!got.equals(want)) {
            wrong++;
            System.out.println(sentence + what + " answered " + got + ", due is " + want);
        }
    }

    static void end() {
        mustHaveChecked();
        System.out.println(wrong == 0 ? "all answers are as due" : wrong + " answers are not as due");
        if (wrong != 0) {
            System.exit(1);
        }
    }

    /** The answer of type for the bytes of a text of 1 to 8. */
    static int type(FunctionRows x, String part) {
        long bytes = 0;
        for (int i = 0; i < part.length(); i++) {
            bytes = bytes << 8 | part.charAt(i);
        }
        return x.type(bytes, part.length());
    }

    /** Types a text of any length; the tape has to have room for it. */
    static void typeAll(FunctionRows x, String all) {
        for (int i = 0; i < all.length(); i += 8) {
            type(x, all.substring(i, Math.min(i + 8, all.length())));
        }
    }

    static int text(FunctionRows x, String all, int tag) {
        typeAll(x, all);
        return x.text(tag);
    }

    /** A new expression for a value in the notation above. */
    static int make(FunctionRows x, String value) {
        char start = value.charAt(0);
        if (value.equals("error")) {
            return x.leaf(0, UNGIVEN);
        }
        if (value.equals("1/0")) {
            return x.call(8, x.whole(1), x.whole(0), 0);
        }
        if (value.equals("true") || value.equals("false")) {
            return x.leaf(1, value.equals("true") ? 1 : 0);
        }
        if (start == '#') {
            return x.leaf(4, Integer.parseInt(value.substring(1)));
        }
        if (start == '\'') {
            int end = value.lastIndexOf('\'');
            int tag = end == value.length() - 1 ? 0 : value.charAt(end + 1) - 'a' + 1;
            return text(x, value.substring(1, end), tag);
        }
        return x.whole(Long.parseLong(value));
    }

    /** What was reckoned latest, whose kind run has answered, in the notation above. */
    static String latest(FunctionRows x, int kind) {
        if (kind == 3) {
            return latestText(x, x.number(), x.tag());
        }
        long number = x.number();
        String none = x.tag() == FunctionRows.NO && x.letter(0) == FunctionRows.NO ? "" : " with a text's answers";
        switch (kind) {
            case 0:
                return (number == FunctionRows.NO ? "error" : "error with number " + number) + none;
            case 1:
                return (number == 1 ? "true" : number == 0 ? "false" : "truth " + number) + none;
            case 2:
                return number + none;
            case 4:
                return "#" + number + none;
            default:
                return "kind " + kind;
        }
    }

    private static String latestText(FunctionRows x, long length, int tag) {
        StringBuilder shown = new StringBuilder("'");
        for (int i = 0; i < length; i++) {
            shown.append((char) x.letter(i));
        }
        shown.append('\'');
        if (tag != 0) {
            shown.append((char) ('a' - 1 + tag));
        }
        return x.letter((int) length) == FunctionRows.NO ? shown.toString() : shown + " with a byte behind its end";
    }

    static String reckoned(FunctionRows x, int e) {
        return latest(x, x.run(e));
    }

    /** A call of an operation, on a new object with new values, and on one that has reckoned others before. */
    static void operation(int operation, String want, String... operands) {
        String what = "operation " + operation + " of " + String.join(" ", operands);
        FunctionRows x = new FunctionRows();
        int[] made = {-1, -1, -1};
        for (int i = 0; i < operands.length; i++) {
            made[i] = make(x, operands[i]);
        }
        int e = x.call(operation, made[0], made[1], made[2]);
        due(what, reckoned(x, e), want);
        if (operation != GIVEN) {
            due(what + " as variables, behind others", reckonedBehind(operation, operands), want);
            EARLIER.put(operation, operands);
            SOUND.put(operation, want.equals("error") ? SOUND.getOrDefault(operation, operands) : operands);
        }
    }

    /** One call of variables, reckoned with the operands of earlier checks first, of which something could stay. */
    private static String reckonedBehind(int operation, String... operands) {
        FunctionRows x = new FunctionRows();
        for (int v = 0; v < 3; v++) {
            x.leaf(0, v);
        }
        int e = x.call(operation, 0, 1, 2);
        giveAll(x, SOUND.getOrDefault(operation, operands));
        x.run(e);
        giveAll(x, EARLIER.getOrDefault(operation, operands));
        x.run(e);
        giveAll(x, operands);
        return reckoned(x, e);
    }

    private static void giveAll(FunctionRows x, String... values) {
        for (int v = 0; v < values.length; v++) {
            if (x.run(make(x, values[v])) == 0) {
                x.drop(v);
            } else {
                x.give(v);
            }
        }
    }
}
