/**
 * What the tests share: counting wrong answers, and values written as texts.
 * Notation: true, false; -12; 'bytes' and behind it a tag's letter, if any; #7; error.
 */
final class Check {
    private static final int UNGIVEN = 7;
    private static int wrong;

    private Check() {
    }

    static void due(String what, long got, long want) {
        if (got != want) {
            wrong++;
            System.out.println(what + " answered " + got + ", due is " + want);
        }
    }

    static void due(String what, String got, String want) {
        if (!got.equals(want)) {
            wrong++;
            System.out.println(what + " answered " + got + ", due is " + want);
        }
    }

    static void end() {
        System.out.println(wrong == 0 ? "all answers are as due" : wrong + " answers are not as due");
        if (wrong != 0) {
            System.exit(1);
        }
    }

    /** The answer of type for the bytes of a text of 1 to 8. */
    static int type(FunctionRows x, String part) {
        long bytes = 0;
        for (int i = 0; i < part.length(); i++) {
            bytes = bytes << 8 | part.charAt(i);
        }
        return x.type(bytes, part.length());
    }

    /** Types a text of any length; the tape has to have room for it. */
    static void typeAll(FunctionRows x, String all) {
        for (int i = 0; i < all.length(); i += 8) {
            type(x, all.substring(i, Math.min(i + 8, all.length())));
        }
    }

    static int text(FunctionRows x, String all, int tag) {
        typeAll(x, all);
        return x.text(tag);
    }

    /** A new expression for a value in the notation above; an error is a variable without a value. */
    static int make(FunctionRows x, String value) {
        char start = value.charAt(0);
        if (value.equals("error")) {
            return x.leaf(0, UNGIVEN);
        }
        if (value.equals("true") || value.equals("false")) {
            return x.leaf(1, value.equals("true") ? 1 : 0);
        }
        if (start == '#') {
            return x.leaf(4, Integer.parseInt(value.substring(1)));
        }
        if (start == '\'') {
            int end = value.lastIndexOf('\'');
            int tag = end == value.length() - 1 ? 0 : value.charAt(end + 1) - 'a' + 1;
            return text(x, value.substring(1, end), tag);
        }
        return x.whole(Long.parseLong(value));
    }

    /** What was reckoned latest, whose kind run has answered, in the notation above. */
    static String latest(FunctionRows x, int kind) {
        switch (kind) {
            case 0:
                return "error";
            case 1:
                return x.number() == 1 ? "true" : "false";
            case 2:
                return Long.toString(x.number());
            case 3:
                StringBuilder shown = new StringBuilder("'");
                for (int i = 0; i < x.number(); i++) {
                    shown.append((char) x.letter(i));
                }
                shown.append('\'');
                if (x.tag() != 0) {
                    shown.append((char) ('a' - 1 + x.tag()));
                }
                return shown.toString();
            case 4:
                return "#" + x.number();
            default:
                return "kind " + kind;
        }
    }

    static String reckoned(FunctionRows x, int e) {
        return latest(x, x.run(e));
    }

    /** A call of an operation on new values, on a new object. */
    static void operation(int operation, String want, String... operands) {
        FunctionRows x = new FunctionRows();
        int[] made = {-1, -1, -1};
        for (int i = 0; i < operands.length; i++) {
            made[i] = make(x, operands[i]);
        }
        int e = x.call(operation, made[0], made[1], made[2]);
        due("operation " + operation + " of " + String.join(" ", operands), reckoned(x, e), want);
    }
}
