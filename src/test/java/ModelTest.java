import java.util.Random;

/** Promises 1 to 17 at once: long runs of calls, the same each time, against the Model. */
public final class ModelTest {
    private static final int RUNS = 1500;
    private static final int CALLS = 512;
    private static final int PATTERNS = 60000;
    private static final String[] NAMES = {
        "type", "text", "whole", "leaf", "call", "takes", "run", "number", "tag", "letter", "give", "drop", "uses",
        "depth", "clear", "size"
    };
    // How often each of NAMES is called, of 100: in runs with all kinds of values, with many texts, with few.
    private static final int[][] OFTEN = {
        {13, 10, 5, 7, 24, 1, 18, 5, 4, 4, 3, 1, 2, 2, 0, 1},
        {22, 15, 1, 1, 22, 0, 20, 5, 4, 4, 3, 1, 1, 1, 0, 0},
        {2, 1, 14, 14, 27, 1, 20, 8, 1, 1, 4, 2, 2, 2, 0, 1}
    };
    private static final String[] PIECES = {
        "a", "b", "ab", "aB", "ba", "abc", "12", "-", "0", "true", " ", "*", "(a)", "a|b", "[a-c]", ".", "b+", "^a",
        "b$", "(", ")", "[", "\\"
    };
    private static final long[] WHOLES = {
        0, 1, -1, 2, 3, -2, 7, 24, 1000, 31250000, -32000000, 999999999999999L, 1000000000000000L,
        -1000000000000000L, 1000000000000001L, -1000000000000001L, Long.MAX_VALUE, Long.MIN_VALUE
    };
    private static final int[] LEAVES = {0, 1, 4};
    private static final int[] WILD = {
        Integer.MIN_VALUE, Integer.MIN_VALUE + 1, -80, -1, 0, 7, 8, 24, 27, 29, 30, 79, 80, 999, 1000, 65536,
        Integer.MAX_VALUE - 1, Integer.MAX_VALUE
    };
    private static final String PATTERN_BYTES = "aaabbbc|||***++??((()))^$.[]-\\";

    public static void main(String[] args) {
        Random random = new Random(20261115);
        for (int run = 0; run < RUNS; run++) {
            long wrong = run(run, random);
            Check.due("run " + run + ": wrong answers", wrong, 0);
        }
        patterns(random);
        Check.end();
    }

    private static long run(int run, Random random) {
        FunctionRows x = new FunctionRows();
        Model model = new Model();
        int size = 0;
        for (int i = 0; i < CALLS; i++) {
            String name = random.nextInt(120) == 0 ? "clear" : NAMES[chosen(OFTEN[run % OFTEN.length], random)];
            long first = wildOr(first(name, size, random), random);
            int second = (int) wildOr(second(name, first, size, random), random);
            int third = (int) wildOr(operand(size, random), random);
            int fourth = (int) wildOr(operand(size, random), random);
            long got = answer(x, name, first, second, third, fourth);
            long want = model.answer(name, first, second, third, fourth);
            if (got != want) {
                System.out.println("run " + run + ", call " + i + ": " + name + "(" + first + ", " + second + ", "
                    + third + ", " + fourth + ") answered " + got + ", due is " + want);
                return 1;
            }
            // Not asked of the object itself, which is used for no more than 512 calls.
            size = (int) model.answer("size", 0, 0, 0, 0);
        }
        return 0;
    }

    /** Sometimes another argument, as any call may have any. */
    private static long wildOr(long argument, Random random) {
        return random.nextInt(40) == 0 ? WILD[random.nextInt(WILD.length)] : argument;
    }

    private static int chosen(int[] often, Random random) {
        int left = random.nextInt(100);
        for (int i = 0; i < often.length; i++) {
            left -= often[i];
            if (left < 0) {
                return i;
            }
        }
        return often.length - 1;
    }

    private static long first(String name, int size, Random random) {
        switch (name) {
            case "type": return bytes(random);
            case "text": return random.nextInt(3) > 0 ? 0 : random.nextInt(3) > 0 ? 5 : random.nextInt(30) - 1;
            case "whole": return WHOLES[random.nextInt(WHOLES.length)];
            case "leaf": return random.nextInt(10) == 0 ? random.nextInt(8) - 2 : LEAVES[random.nextInt(LEAVES.length)];
            // PART and GOES seldom meet the kinds that they ask for, so they come more often.
            case "call": return random.nextInt(4) > 0 ? random.nextInt(32) - 1 : random.nextBoolean() ? 11 : 27;
            case "takes": return random.nextInt(34) - 2;
            case "letter": return random.nextInt(10) - 1;
            case "give":
            case "drop": return random.nextInt(10) - 1;
            default: return operand(size, random);
        }
    }

    private static int second(String name, long first, int size, Random random) {
        if (name.equals("type")) {
            int length = (71 - Long.numberOfLeadingZeros(first)) / 8;
            return random.nextInt(40) == 0 ? random.nextInt(11) - 1 : length;
        }
        if (name.equals("leaf")) {
            int few = random.nextInt(random.nextBoolean() ? 2 : 10);
            return first == 4 ? random.nextInt(5) * 250 - random.nextInt(2) : few;
        }
        return operand(size, random);
    }

    private static long bytes(Random random) {
        String piece = PIECES[random.nextInt(PIECES.length)];
        long bytes = 0;
        for (char b : piece.toCharArray()) {
            bytes = bytes << 8 | b;
        }
        return random.nextInt(60) == 0 ? random.nextLong() : bytes;
    }

    private static int operand(int size, Random random) {
        return random.nextInt(50) == 0 ? random.nextInt(90) - 5 : random.nextInt(Math.max(size, 1));
    }

    private static long answer(FunctionRows x, String name, long first, int second, int third, int fourth) {
        int i = (int) first;
        switch (name) {
            case "type": return x.type(first, second);
            case "text": return x.text(i);
            case "whole": return x.whole(first);
            case "leaf": return x.leaf(i, second);
            case "call": return x.call(i, second, third, fourth);
            case "takes": return x.takes(i);
            case "run": return x.run(i);
            case "number": return x.number();
            case "tag": return x.tag();
            case "letter": return x.letter(i);
            case "give": return x.give(i);
            case "drop": return x.drop(i);
            case "uses": return x.uses(i);
            case "depth": return x.depth(i);
            case "clear": return x.clear();
            default: return x.size();
        }
    }

    private static void patterns(Random random) {
        for (int i = 0; i < PATTERNS; i++) {
            String text = bytesOf("abc", random.nextInt(9), random);
            String pattern = random.nextBoolean() ? bytesOf(PATTERN_BYTES, random.nextInt(12), random)
                : grown(random, 4);
            if (pattern.length() > 24) {
                continue;
            }
            Boolean due = Model.goes(text, pattern);
            Check.operation(27, due == null ? "error" : due.toString(), "'" + text + "'", "'" + pattern + "'");
        }
    }

    private static String bytesOf(String from, int length, Random random) {
        StringBuilder all = new StringBuilder();
        for (int i = 0; i < length; i++) {
            all.append(from.charAt(random.nextInt(from.length())));
        }
        return all.toString();
    }

    /** A text that is a pattern. */
    private static String grown(Random random, int deep) {
        switch (deep == 0 ? 0 : random.nextInt(8)) {
            case 0: return bytesOf("abc.", 1, random);
            case 1: return "(" + grown(random, deep - 1) + ")" + bytesOf("*+?", 1, random);
            case 2: return "(" + grown(random, deep - 1) + "|" + grown(random, deep - 1) + ")";
            case 3: return "^" + grown(random, deep - 1);
            case 4: return grown(random, deep - 1) + "$";
            case 5:
                String items = (random.nextBoolean() ? "^" : "") + bytesOf("abc", 1, random);
                return "[" + items + "]" + bytesOf("*+?", 1, random);
            default: return grown(random, deep - 1) + grown(random, deep - 1);
        }
    }
}
