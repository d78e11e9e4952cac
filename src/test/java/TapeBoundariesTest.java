/** The boundaries of promises 1 to 3, sentence by sentence: a new object, type, text. */
public final class TapeBoundariesTest {
    private static final int BAD = FunctionRows.BAD;
    private static final int NO = FunctionRows.NO;
    private static final int FULL = FunctionRows.FULL;
    private static final long EIGHT = 0x4142434445464748L;
    private static final String LETTERS = "abcdefghijklmnopqrstuvwxyzabcdefghijklmnopqrstuv";
    private static final int[] NO_BYTES = {0, 1, 31, 127, 128, 160, 193, 254, 255};

    public static void main(String[] args) {
        newExpressions();
        newRow();
        newTape();
        newReckoned();
        newObjectsShareNothing();
        typeLowestBytes();
        typeOtherBytes();
        typeLengths();
        typeBytes();
        typeBadComesNothing();
        typeFull();
        typeMostBytes();
        typeBadOfAFullTape();
        textLengths();
        textOfTheTape();
        textEmptiesTheTape();
        textTooLong();
        textTags();
        textFull();
        Check.end();
    }

    private static void newExpressions() {
        Check.sentence("Promise 1", "No expressions");
        FunctionRows x = new FunctionRows();
        Check.due("size()", x.size(), 0);
        Check.due("run(0)", x.run(0), BAD);
        Check.due("uses(0)", x.uses(0), BAD);
        Check.due("depth(0)", x.depth(0), BAD);
        Check.due("call(0, 0, 0, 0)", x.call(0, 0, 0, 0), BAD);
        Check.due("clear()", x.clear(), 0);
        Check.due("the first one's number", x.whole(5), 0);
    }

    private static void newRow() {
        Check.sentence("Promise 1", "a row that gives nothing");
        FunctionRows x = new FunctionRows();
        for (int v = 0; v < 8; v++) {
            Check.due("drop(" + v + ")", x.drop(v), 0);
            int variable = x.leaf(0, v);
            Check.due("variable " + v, Check.reckoned(x, variable), "error");
            Check.due("GIVEN of variable " + v, Check.reckoned(x, x.call(24, variable, 0, 0)), "false");
        }
    }

    private static void newTape() {
        Check.sentence("Promise 1", "an empty tape");
        Check.due("type of one byte", new FunctionRows().type('a', 1), 1);
        FunctionRows x = new FunctionRows();
        Check.due("the tape as a text", Check.reckoned(x, x.text(0)), "''");
    }

    private static void newReckoned() {
        Check.sentence("Promise 1", "nothing was reckoned");
        FunctionRows x = new FunctionRows();
        Check.due("number()", x.number(), NO);
        Check.due("tag()", x.tag(), NO);
        Check.due("letter(0)", x.letter(0), NO);
        for (int v = 0; v < 8; v++) {
            Check.due("give(" + v + ")", x.give(v), NO);
            Check.due("drop(" + v + ") behind it", x.drop(v), 0);
        }
    }

    private static void newObjectsShareNothing() {
        Check.sentence("Promise 1", "A new object");
        FunctionRows other = new FunctionRows();
        other.run(Check.text(other, "abc", 5));
        other.give(2);
        Check.type(other, "xyz");
        FunctionRows x = new FunctionRows();
        Check.due("beside another one, size()", x.size(), 0);
        Check.due("beside another one, number()", x.number(), NO);
        Check.due("beside another one, drop(2)", x.drop(2), 0);
        Check.due("beside another one, type of one byte", Check.type(x, "q"), 1);
        x.run(x.text(0));
        x.give(2);
        Check.due("the other one's size()", other.size(), 1);
        Check.due("the other one's latest", Check.latest(other, 3), "'abc'e");
        Check.due("the other one's tape", Check.reckoned(other, other.text(0)), "'xyz'");
        Check.due("the other one's row", Check.reckoned(other, other.leaf(0, 2)), "'abc'e");
    }

    private static void typeLowestBytes() {
        Check.sentence("Promise 2", "the highest of them first, come behind the tape: its length.");
        for (int n = 1; n <= 8; n++) {
            FunctionRows x = new FunctionRows();
            Check.due("type of " + n + " bytes", x.type(EIGHT, n), n);
            Check.due("type of 2 behind " + n, x.type(0x797A, 2), n + 2);
            Check.due("type of " + n + " behind them", x.type(EIGHT, n), 2 * n + 2);
            String typed = "ABCDEFGH".substring(8 - n);
            Check.due("the bytes", Check.reckoned(x, x.text(0)), "'" + typed + "yz" + typed + "'");
        }
    }

    private static void typeOtherBytes() {
        Check.sentence("Promise 2", "The lowest n bytes of bytes");
        for (int n = 1; n < 8; n++) {
            for (int above : NO_BYTES) {
                long bytes = EIGHT & ~(255L << 8 * n) | (long) above << 8 * n;
                FunctionRows x = new FunctionRows();
                Check.due("type of " + n + " with " + above + " above them", x.type(bytes, n), n);
                Check.due("the bytes", Check.reckoned(x, x.text(0)), "'" + "ABCDEFGH".substring(8 - n) + "'");
            }
            FunctionRows x = new FunctionRows();
            Check.due("type of " + n + " with all bits above them", x.type(EIGHT | -1L << 8 * n, n), n);
        }
    }

    private static void typeLengths() {
        Check.sentence("Promise 2", "BAD when n is not 1 .. 8");
        FunctionRows x = new FunctionRows();
        int[] others = {0, -1, -8, 9, 16, 33, 64, 257, Integer.MIN_VALUE, Integer.MIN_VALUE + 1, Integer.MAX_VALUE};
        for (int n : others) {
            Check.due("type of " + n, x.type(EIGHT, n), BAD);
            Check.due("type of no bytes, " + n, x.type(0, n), BAD);
        }
        Check.due("type of 1", x.type(EIGHT, 1), 1);
        Check.due("type of 8", x.type(EIGHT, 8), 9);
    }

    private static void typeBytes() {
        Check.sentence("Promise 2", "BAD when [..] a byte is not 32 .. 126");
        for (int n = 1; n <= 8; n++) {
            for (int place = 0; place < n; place++) {
                for (int b = 0; b < 256; b++) {
                    long bytes = EIGHT & ~(255L << 8 * place) | (long) b << 8 * place;
                    int due = b >= 32 && b <= 126 ? n : BAD;
                    Check.due("type of " + n + " with " + b + " at " + place, new FunctionRows().type(bytes, n), due);
                }
            }
        }
        FunctionRows x = new FunctionRows();
        Check.due("type of 32 and 126", x.type(0x207E, 2), 2);
        Check.due("they are the text's", Check.reckoned(x, x.text(0)), "' ~'");
    }

    private static void typeBadComesNothing() {
        Check.sentence("Promise 2", "BAD");
        for (int place = 0; place < 8; place++) {
            FunctionRows x = new FunctionRows();
            Check.type(x, "pq");
            Check.due("type with 31 at " + place, x.type(EIGHT & ~(255L << 8 * place) | 31L << 8 * place, 8), BAD);
            Check.due("type of 9", x.type(EIGHT, 9), BAD);
            Check.due("type of one behind it", Check.type(x, "r"), 3);
            Check.due("the bytes before and behind it", Check.reckoned(x, x.text(0)), "'pqr'");
        }
    }

    private static void typeFull() {
        Check.sentence("Promise 2", "FULL (nothing comes)");
        for (int n = 1; n <= 8; n++) {
            FunctionRows x = taped(48 - n);
            Check.due("type of the last " + n, x.type(EIGHT, n), 48);
            for (int before = 49 - n; before <= 48; before++) {
                x = taped(before);
                Check.due("type of " + n + " behind " + before, x.type(EIGHT, n), FULL);
                Check.due("again", x.type(EIGHT, n), FULL);
                for (int length = before + 1; length <= 48; length++) {
                    Check.due("type of one behind it", x.type('a', 1), length);
                }
                Check.due("type of one too many", x.type('a', 1), FULL);
            }
        }
    }

    private static void typeMostBytes() {
        Check.sentence("Terms", "THE TAPE has at most 48 bytes.");
        FunctionRows x = new FunctionRows();
        for (int length = 1; length <= 48; length++) {
            Check.due("type of one", x.type('a', 1), length);
        }
        Check.due("type of the 49th", x.type('a', 1), FULL);
        x.text(0);
        for (int length = 8; length <= 48; length += 8) {
            Check.due("type of 8", x.type(EIGHT, 8), length);
        }
        Check.due("type of 8 more", x.type(EIGHT, 8), FULL);
        Check.due("type of one more", x.type('a', 1), FULL);
    }

    private static void typeBadOfAFullTape() {
        Check.sentence("Promise 2", "BAD when n is not 1 .. 8, or a byte is not 32 .. 126; FULL");
        FunctionRows x = taped(48);
        Check.due("type of 0 on a full tape", x.type(EIGHT, 0), BAD);
        Check.due("type of 9 on a full tape", x.type(EIGHT, 9), BAD);
        Check.due("type of 31 on a full tape", x.type(31, 1), BAD);
        Check.due("type of 127 on a full tape", x.type(127, 1), BAD);
        Check.due("type of 32 on a full tape", x.type(32, 1), FULL);
        Check.due("type of 126 on a full tape", x.type(126, 1), FULL);
    }

    private static void textLengths() {
        Check.sentence("Terms", "a TEXT of at most 24 bytes of 32 .. 126");
        for (int length = 0; length <= 24; length++) {
            FunctionRows x = new FunctionRows();
            String bytes = LETTERS.substring(0, length);
            Check.due("text of " + length, Check.text(x, bytes, 0), 0);
            Check.due("its bytes", Check.reckoned(x, 0), "'" + bytes + "'");
        }
        for (int b = 32; b <= 126; b++) {
            FunctionRows x = new FunctionRows();
            x.type(b, 1);
            Check.due("the kind of a text of " + b, x.run(x.text(0)), 3);
            Check.due("the byte of a text of " + b, x.letter(0), b);
        }
    }

    private static void textOfTheTape() {
        Check.sentence("Promise 3", "A TEXT of the tape [..]: its number.");
        FunctionRows x = new FunctionRows();
        Check.due("text of an empty tape", x.text(0), 0);
        Check.due("text of 24 bytes", Check.text(x, LETTERS.substring(0, 24), 26), 1);
        Check.due("text of 1 byte", Check.text(x, "q", 1), 2);
        Check.due("text of an empty tape", x.text(9), 3);
        Check.due("the first", Check.reckoned(x, 0), "''");
        Check.due("the second", Check.reckoned(x, 1), "'abcdefghijklmnopqrstuvwx'z");
        Check.due("the third", Check.reckoned(x, 2), "'q'a");
        Check.due("the fourth", Check.reckoned(x, 3), "''i");
    }

    private static void textEmptiesTheTape() {
        Check.sentence("Promise 3", "which is empty then whatever the answer");
        FunctionRows x = new FunctionRows();
        Check.due("text", Check.text(x, "abc", 0), 0);
        mustBeEmpty("a number", x);
        for (int tag : new int[] {-1, 27}) {
            Check.due("text with tag " + tag, Check.text(x, "abc", tag), BAD);
            mustBeEmpty("BAD of tag " + tag, x);
        }
        for (int length : new int[] {25, 48}) {
            Check.due("text of " + length, Check.text(x, LETTERS.substring(0, length), 0), BAD);
            mustBeEmpty("BAD of " + length + " bytes", x);
            Check.due("text of " + length + ", tag 27", Check.text(x, LETTERS.substring(0, length), 27), BAD);
            mustBeEmpty("BAD of both", x);
        }
        fill(x, 80);
        Check.due("text when there are 80", Check.text(x, "abc", 0), FULL);
        Check.due("type of one behind FULL", x.type('!', 1), 1);
        Check.due("text of tag 27 when there are 80", x.text(27), BAD);
        Check.due("type of one behind BAD", x.type('!', 1), 1);
        Check.due("text of an empty tape when there are 80", x.text(0), FULL);
        x.clear();
        mustBeEmpty("FULL", x);
    }

    private static void mustBeEmpty(String behind, FunctionRows x) {
        Check.due("the tape's text behind " + behind, Check.reckoned(x, x.text(0)), "''");
        Check.due("type of one behind " + behind, x.type('!', 1), 1);
        Check.due("its text", Check.reckoned(x, x.text(0)), "'!'");
    }

    private static void textTooLong() {
        Check.sentence("Promise 3", "BAD: the tape has more than 24 bytes");
        for (int length = 23; length <= 48; length++) {
            FunctionRows x = new FunctionRows();
            x.whole(1);
            Check.due("text of " + length, Check.text(x, LETTERS.substring(0, length), 0), length > 24 ? BAD : 1);
            Check.due("size() behind it", x.size(), length > 24 ? 1 : 2);
        }
    }

    private static void textTags() {
        Check.sentence("Promise 3", "or tag is none");
        for (int tag : new int[] {-1, -26, 27, 28, 97, 256, 282, Integer.MIN_VALUE, Integer.MAX_VALUE}) {
            FunctionRows x = new FunctionRows();
            Check.due("text with tag " + tag, Check.text(x, "ab", tag), BAD);
            Check.due("text of an empty tape with tag " + tag, x.text(tag), BAD);
            Check.due("size() behind it", x.size(), 0);
        }
        Check.sentence("Terms", "with a TAG 0 .. 26");
        FunctionRows x = new FunctionRows();
        for (int tag = 0; tag <= 26; tag++) {
            Check.due("text with tag " + tag, Check.text(x, "ab", tag), tag);
            x.run(tag);
            Check.due("its tag", x.tag(), tag);
        }
    }

    private static void textFull() {
        Check.sentence("Promise 3", "FULL");
        FunctionRows x = new FunctionRows();
        fill(x, 79);
        Check.due("the 80th", Check.text(x, "ab", 3), 79);
        Check.due("the 81st", Check.text(x, "cd", 3), FULL);
        Check.due("the 81st, of an empty tape", x.text(0), FULL);
        Check.due("size()", x.size(), 80);
        Check.due("the 80th stays", Check.reckoned(x, 79), "'ab'c");
        Check.due("the first stays", Check.reckoned(x, 0), "0");
        Check.due("the 81st of 25 bytes", Check.text(x, LETTERS.substring(0, 25), 0), BAD);
        Check.due("the 81st of tag -1", Check.text(x, "ab", -1), BAD);
        Check.due("the 81st of 24 bytes and tag 26", Check.text(x, LETTERS.substring(0, 24), 26), FULL);
    }

    private static FunctionRows taped(int length) {
        FunctionRows x = new FunctionRows();
        Check.typeAll(x, LETTERS.substring(0, length));
        return x;
    }

    private static void fill(FunctionRows x, int size) {
        for (int i = x.size(); i < size; i++) {
            x.whole(i);
        }
    }
}
