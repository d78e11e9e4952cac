/** The boundaries of operations 10 to 20 and 28 (promise 8), sentence by sentence. */
public final class TextBoundariesTest {
    private static final String GREATEST = "1000000000000000";
    private static final String ALPHABET = "abcdefghijklmnopqrstuvwx";
    private static final String LONGEST = "'" + ALPHABET + "'";
    private static final String[] ERRORS = {"error", "1/0"};

    public static void main(String[] args) {
        length();
        partPlaces();
        partLeftOut();
        partFarAway();
        partTag();
        great();
        small();
        joined();
        joinedTags();
        joinedTooLong();
        seekTags();
        has();
        begins();
        ends();
        before();
        behind();
        none();
        tag();
        turned();
        turnedNotEmpty();
        turnedTags();
        turnedTooLong();
        otherKinds();
        Check.end();
    }

    private static void op(int operation, String want, String... operands) {
        Check.operation(operation, want, operands);
    }

    private static void length() {
        Check.sentence("Promise 8, 10 LENGTH", "how many bytes a TEXT has");
        for (int length = 0; length <= 24; length++) {
            String text = "'" + ALPHABET.substring(0, length) + "'";
            op(10, Integer.toString(length), text);
            op(10, Integer.toString(length), text + "z");
        }
    }

    private static void partPlaces() {
        Check.sentence("Promise 8, 11 PART", "those bytes whose places (1 the first) are from b on, c of them at most");
        op(11, "'a'", "'abcd'", "1", "1");
        op(11, "'bc'", "'abcd'", "2", "2");
        op(11, "'d'", "'abcd'", "4", "1");
        op(11, "'abcd'", "'abcd'", "1", "4");
        op(11, "'abc'", "'abcd'", "1", "3");
        op(11, "''", "'abcd'", "1", "0");
        op(11, "''", "'abcd'", "1", "-1");
        op(11, "''", "'abcd'", "4", "-4");
        op(11, LONGEST, LONGEST, "1", "24");
        op(11, "'x'", LONGEST, "24", "1");
        op(11, "'abcdefghijklmnopqrstuvw'", LONGEST, "1", "23");
    }

    private static void partLeftOut() {
        Check.sentence("Promise 8, 11 PART", "places that there are not are left out");
        String[] texts = {"", "a", "abcd", ALPHABET};
        for (String text : texts) {
            for (int b = -4; b <= text.length() + 3; b++) {
                for (int c = -2; c <= text.length() + 7; c++) {
                    StringBuilder due = new StringBuilder();
                    for (int place = b; place < b + c; place++) {
                        if (place >= 1 && place <= text.length()) {
                            due.append(text.charAt(place - 1));
                        }
                    }
                    op(11, "'" + due + "'", "'" + text + "'", Integer.toString(b), Integer.toString(c));
                }
            }
        }
    }

    /** Numbers that would be others in an int, or beyond a long when they are put together carelessly. */
    private static void partFarAway() {
        Check.sentence("Promise 8, 11 PART", "(WHOLES; places that there are not are left out)");
        op(11, "''", "'abcd'", "4294967297", "2");
        op(11, "'abcd'", "'abcd'", "1", "4294967296");
        op(11, "'bcd'", "'abcd'", "2", "4294967295");
        op(11, "'bcd'", "'abcd'", "2", "2147483647");
        op(11, "''", "'abcd'", "-4294967295", "2");
        op(11, "'abcd'", "'abcd'", "-4294967295", "4294967300");
        op(11, "'abc'", "'abcd'", "-4294967295", "4294967299");
        op(11, "''", "'abcd'", "1", "-4294967292");
        op(11, "'abcd'", "'abcd'", "1", GREATEST);
        op(11, "'d'", "'abcd'", "4", GREATEST);
        op(11, "''", "'abcd'", GREATEST, GREATEST);
        op(11, "''", "'abcd'", GREATEST, "-" + GREATEST);
        op(11, "''", "'abcd'", "-" + GREATEST, "-" + GREATEST);
        op(11, "''", "'abcd'", "-" + GREATEST, GREATEST);
        op(11, "''", "'abcd'", "-999999999999999", GREATEST);
        op(11, "'a'", "'abcd'", "-999999999999998", GREATEST);
        op(11, "'ab'", "'abcd'", "-999999999999997", GREATEST);
        op(11, "''", "'abcd'", "-" + GREATEST, "1");
    }

    private static void partTag() {
        Check.sentence("Promise 8, 11 PART", "with its tag");
        for (String tag : new String[] {"", "a", "z"}) {
            op(11, "'b'" + tag, "'abc'" + tag, "2", "1");
            op(11, "''" + tag, "'abc'" + tag, "4", "1");
            op(11, "''" + tag, "'abc'" + tag, "1", "0");
            op(11, "''" + tag, "'abc'" + tag, "0", "1");
            op(11, "''" + tag, "''" + tag, "1", "1");
        }
    }

    private static void great() {
        Check.sentence("Promise 8, 12 GREAT", "a TEXT with letters of that size, and its tag");
        for (char b = 32; b <= 126; b++) {
            char due = b >= 'a' && b <= 'z' ? (char) (b - 32) : b;
            op(12, "'" + due + "'", "'" + b + "'");
        }
        edgesOfSize(12, ALPHABET.toUpperCase());
    }

    private static void small() {
        Check.sentence("Promise 8, 13 SMALL", "a TEXT with letters of that size, and its tag");
        for (char b = 32; b <= 126; b++) {
            char due = b >= 'A' && b <= 'Z' ? (char) (b + 32) : b;
            op(13, "'" + due + "'", "'" + b + "'");
        }
        edgesOfSize(13, ALPHABET);
    }

    private static void edgesOfSize(int operation, String due) {
        for (String tag : new String[] {"", "a", "z"}) {
            op(operation, "''" + tag, "''" + tag);
            op(operation, "'" + due + "'" + tag, LONGEST + tag);
            op(operation, "'" + due + "'" + tag, "'" + ALPHABET.toUpperCase() + "'" + tag);
            op(operation, "'@[`{ 09'" + tag, "'@[`{ 09'" + tag);
        }
    }

    private static void joined() {
        Check.sentence("Promise 8, 14 JOINED", "two TEXTS, one behind the other");
        op(14, "'ab'", "'a'", "'b'");
        op(14, "'ba'", "'b'", "'a'");
        op(14, "''", "''", "''");
        op(14, "'ab'", "'ab'", "''");
        op(14, "'ab'", "''", "'ab'");
        FunctionRows x = new FunctionRows();
        int text = Check.make(x, "'ab'c");
        Check.due("a text with itself", Check.reckoned(x, x.call(14, text, text, 0)), "'abab'c");
    }

    private static void joinedTags() {
        Check.sentence("Promise 8, 14 JOINED", "their tag, if it is one, else 0");
        String[] tags = {"", "a", "b", "z"};
        for (String a : tags) {
            for (String b : tags) {
                String due = a.equals(b) ? a : "";
                op(14, "'xy'" + due, "'x'" + a, "'y'" + b);
                op(14, "'x'" + due, "'x'" + a, "''" + b);
                op(14, "'y'" + due, "''" + a, "'y'" + b);
                op(14, "''" + due, "''" + a, "''" + b);
            }
        }
    }

    private static void joinedTooLong() {
        Check.sentence("Promise 8, 14 JOINED", "ERROR above 24 bytes");
        for (int first = 0; first <= 24; first++) {
            String a = "'" + ALPHABET.substring(0, first) + "'";
            String b = ALPHABET.substring(first);
            op(14, LONGEST, a, "'" + b + "'");
            if (first > 0) {
                op(14, "error", a, "'" + b + "!'");
            }
        }
        op(14, "error", LONGEST, LONGEST);
        op(14, LONGEST + "k", LONGEST + "k", "''k");
        op(14, "error", LONGEST + "k", "'a'k");
        op(14, "error", "' 'k", LONGEST + "j");
    }

    private static void seekTags() {
        Check.sentence("Promise 8, 15 to 19", "b's tag is 0 or a's, else an ERROR");
        String[] due = {"true", "true", "true", "''", "''"};
        String[] tags = {"", "a", "b", "z"};
        for (int operation = 15; operation <= 19; operation++) {
            for (String a : tags) {
                for (String b : tags) {
                    boolean sound = b.isEmpty() || b.equals(a);
                    String found = due[operation - 15] + (operation >= 18 ? a : "");
                    op(operation, sound ? found : "error", "'x'" + a, "'x'" + b);
                    String notFound = operation >= 18 ? "''" : "false";
                    op(operation, sound ? notFound : "error", "'x'" + a, "'y'" + b);
                    op(operation, sound ? found : "error", "''" + a, "''" + b);
                }
            }
        }
    }

    private static void has() {
        Check.sentence("Promise 8, 15 HAS", "whether b's bytes lie in a somewhere");
        for (int place = 0; place < 24; place++) {
            op(15, "true", LONGEST, "'" + ALPHABET.charAt(place) + "'");
            op(15, "true", LONGEST, "'" + ALPHABET.substring(place) + "'");
        }
        op(15, "true", LONGEST, LONGEST);
        op(15, "false", LONGEST, "'y'");
        op(15, "false", LONGEST, "'xa'");
        op(15, "false", LONGEST, "'A'");
        op(15, "false", LONGEST, "'ac'");
        op(15, "true", LONGEST, "''");
        op(15, "true", "''", "''");
        op(15, "false", "''", "'a'");
        op(15, "false", "'ab'", "'abc'");
        op(15, "false", "'bc'", "'abc'");
        op(15, "true", "'aab'", "'ab'");
        op(15, "true", "'ababac'", "'abac'");
    }

    private static void begins() {
        Check.sentence("Promise 8, 16 BEGINS", "whether with them");
        for (int length = 0; length <= 24; length++) {
            op(16, "true", LONGEST, "'" + ALPHABET.substring(0, length) + "'");
            String lastWrong = ALPHABET.substring(0, length).replaceAll(".$", "~");
            op(16, length == 0 ? "true" : "false", LONGEST, "'" + lastWrong + "'");
            op(16, length < 24 ? "false" : "true", "'" + ALPHABET.substring(0, length) + "'", LONGEST);
        }
        op(16, "true", "''", "''");
        op(16, "false", "''", "'a'");
        op(16, "false", "'ba'", "'a'");
        op(16, "true", "'aa'", "'a'");
    }

    private static void ends() {
        Check.sentence("Promise 8, 17 ENDS", "whether with them");
        for (int length = 0; length <= 24; length++) {
            op(17, "true", LONGEST, "'" + ALPHABET.substring(24 - length) + "'");
            String firstWrong = ALPHABET.substring(24 - length).replaceAll("^.", "~");
            op(17, length == 0 ? "true" : "false", LONGEST, "'" + firstWrong + "'");
            op(17, length < 24 ? "false" : "true", "'" + ALPHABET.substring(24 - length) + "'", LONGEST);
        }
        op(17, "true", "''", "''");
        op(17, "false", "''", "'a'");
        op(17, "false", "'ab'", "'a'");
        op(17, "true", "'aa'", "'a'");
        op(17, "true", "'aba'", "'a'");
    }

    private static void before() {
        Check.sentence("Promise 8, 18 BEFORE", "what is before [..] the first place of b in a, with a's tag");
        for (String tag : new String[] {"", "e"}) {
            op(18, "''" + tag, "'abcabc'" + tag, "'a'");
            op(18, "'a'" + tag, "'abcabc'" + tag, "'bc'");
            op(18, "'abcab'" + tag, "'abcabcd'" + tag, "'cd'");
            op(18, "''" + tag, "'abc'" + tag, "'abc'");
            op(18, "''" + tag, "'abc'" + tag, "''");
            op(18, "''" + tag, "''" + tag, "''");
            op(18, "'abcdefghijklmnopqrstuvw'" + tag, LONGEST + tag, "'x'" + tag);
            op(18, "'a'" + tag, "'aab'" + tag, "'ab'");
        }
    }

    private static void behind() {
        Check.sentence("Promise 8, 19 BEHIND", "what is [..] behind, the first place of b in a, with a's tag");
        for (String tag : new String[] {"", "e"}) {
            op(19, "'bcabc'" + tag, "'abcabc'" + tag, "'a'");
            op(19, "'abc'" + tag, "'abcabc'" + tag, "'bc'");
            op(19, "''" + tag, "'abcabcd'" + tag, "'cd'");
            op(19, "''" + tag, "'abc'" + tag, "'abc'");
            op(19, "'abc'" + tag, "'abc'" + tag, "''");
            op(19, LONGEST + tag, LONGEST + tag, "''");
            op(19, "''" + tag, "''" + tag, "''");
            op(19, "''" + tag, LONGEST + tag, "'x'" + tag);
            op(19, "'aa'" + tag, "'aaa'" + tag, "'a'");
        }
    }

    private static void none() {
        Check.sentence("Promise 8, 18 BEFORE and 19 BEHIND", "an empty TEXT of tag 0, if there is none");
        for (int operation = 18; operation <= 19; operation++) {
            for (String tag : new String[] {"", "a", "z"}) {
                op(operation, "''", "'abc'" + tag, "'d'");
                op(operation, "''", "'abc'" + tag, "'abcd'" + tag);
                op(operation, "''", "'abc'" + tag, "'ac'");
                op(operation, "''", "''" + tag, "'a'");
                op(operation, "''", LONGEST + tag, "'xy'");
            }
        }
    }

    private static void tag() {
        Check.sentence("Promise 8, 20 TAG", "of a TEXT the letter of its tag, or nothing, as a TEXT of tag 0");
        op(20, "''", "'ab'");
        op(20, "''", "''");
        for (char letter = 'a'; letter <= 'z'; letter++) {
            op(20, "'" + letter + "'", "'AB'" + letter);
            op(20, "'" + letter + "'", "''" + letter);
        }
    }

    private static void turned() {
        String words = "a with c in the place of each b, taken from the left on, none within another";
        Check.sentence("Promise 8, 28 TURNED", words);
        op(28, "'xbxb'", "'abab'", "'a'", "'x'");
        op(28, "'axax'", "'abab'", "'b'", "'x'");
        op(28, "'xx'", "'abab'", "'ab'", "'x'");
        op(28, "'x'", "'aa'", "'aa'", "'x'");
        op(28, "'xa'", "'aaa'", "'aa'", "'x'");
        op(28, "'xx'", "'aaaa'", "'aa'", "'x'");
        op(28, "'xba'", "'ababa'", "'aba'", "'x'");
        op(28, "'aaaa'", "'aa'", "'a'", "'aa'");
        op(28, "'ab'", "'aabb'", "'ab'", "''");
        op(28, "''", "'abab'", "'ab'", "''");
        op(28, "'abab'", "'abab'", "'c'", "'x'");
        op(28, "'ab'", "'ab'", "'abc'", "'x'");
        op(28, "'ab'", "'ab'", "'bc'", "'x'");
        op(28, "''", "''", "'a'", "'x'");
        op(28, "'x'", LONGEST, LONGEST, "'x'");
        op(28, "'abcdefghijklmnopqrstuvw!'", LONGEST, "'x'", "'!'");
        op(28, "'!bcdefghijklmnopqrstuvwx'", LONGEST, "'a'", "'!'");
    }

    private static void turnedNotEmpty() {
        Check.sentence("Promise 8, 28 TURNED", "b not empty");
        op(28, "error", "'abc'", "''", "'x'");
        op(28, "error", "'abc'", "''", "''");
        op(28, "error", "''", "''", "''");
        op(28, "'bc'", "'abc'", "'a'", "''");
        op(28, "''", "''", "'a'", "''");
    }

    private static void turnedTags() {
        Check.sentence("Promise 8, 28 TURNED", "b and c of tag 0");
        String[] tags = {"", "a", "z"};
        for (String a : tags) {
            for (String b : tags) {
                for (String c : tags) {
                    boolean sound = b.isEmpty() && c.isEmpty();
                    op(28, sound ? "'xb'" + a : "error", "'ab'" + a, "'a'" + b, "'x'" + c);
                    op(28, sound ? "'ab'" + a : "error", "'ab'" + a, "'c'" + b, "'x'" + c);
                    op(28, sound ? "''" + a : "error", "''" + a, "'c'" + b, "''" + c);
                }
            }
        }
        Check.sentence("Promise 8, 28 TURNED", "a's tag");
        op(28, "'xb'k", "'ab'k", "'a'", "'x'");
        op(28, "''k", "'a'k", "'a'", "''");
        op(28, "'ab'k", "'ab'k", "'c'", "''");
    }

    private static void turnedTooLong() {
        Check.sentence("Promise 8, 28 TURNED", "ERROR above 24 bytes");
        op(28, "'bbbbbbbbbbbbbbbbbbbbbbbb'", "'aaaaaaaaaaaa'", "'a'", "'bb'");
        op(28, "error", "'aaaaaaaaaaaaa'", "'a'", "'bb'");
        op(28, "error", "'aaaaaaaaaaaac'", "'a'", "'bb'");
        op(28, "error", "'caaaaaaaaaaaa'", "'a'", "'bb'");
        op(28, LONGEST, "'ax'", "'a'", "'abcdefghijklmnopqrstuvw'");
        op(28, "error", "'ax'", "'a'", LONGEST);
        op(28, LONGEST, "'a'", "'a'", LONGEST);
        op(28, "error", "'aa'", "'a'", LONGEST);
        op(28, "error", LONGEST, "'a'", "'aa'");
        op(28, "error", LONGEST, "'x'", "'xx'");
        op(28, LONGEST, LONGEST, "'y'", "'yyyy'");
        op(28, LONGEST, LONGEST, "'xy'", "'yyyy'");
        op(28, "'aaaaaaaaaaaaaaaaaaaaaaa'", "'aaaaaaaaaaaaaaaaaaaaaaab'", "'b'", "''");
    }

    private static void otherKinds() {
        Check.sentence("Terms", "Where an operand is an ERROR, or of another kind than told, a call is an ERROR");
        String[] noTexts = {"true", "false", "0", "1", "#0", "#1", ERRORS[0], ERRORS[1]};
        String[] noWholes = {"true", "false", "''", "'1'", "#0", "#1", ERRORS[0], ERRORS[1]};
        for (String other : noTexts) {
            for (int operation : new int[] {10, 12, 13, 20}) {
                op(operation, "error", other);
            }
            for (int operation = 14; operation <= 19; operation++) {
                op(operation, "error", other, "'a'");
                op(operation, "error", "'a'", other);
                op(operation, "error", "''", other);
                op(operation, "error", other, other);
            }
            op(11, "error", other, "1", "1");
            op(28, "error", other, "'a'", "'b'");
            op(28, "error", "'a'", other, "'b'");
            op(28, "error", "'a'", "'a'", other);
            op(28, "error", "'a'", "'b'", other);
            op(28, "error", "''", "'b'", other);
        }
        for (String other : noWholes) {
            op(11, "error", "'a'", other, "1");
            op(11, "error", "'a'", "1", other);
            op(11, "error", "'a'", "9", other);
            op(11, "error", "''", other, other);
        }
    }
}
