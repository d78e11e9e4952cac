/** The boundaries of operation 27 GOES and of what a PATTERN is (promise 8), sentence by sentence. */
public final class PatternBoundariesTest {
    private static final String ALPHABET = "abcdefghijklmnopqrstuvwx";
    private static final String SPECIAL = ".([\\|^$";
    private static final String NO_ATOMS = ")]*+?";
    private static final String NO_ITEMS = "^]-\\";

    public static void main(String[] args) {
        someParts();
        emptyParts();
        operands();
        patternTags();
        alternatives();
        noPieces();
        pieces();
        noneOrMore();
        oneOrMore();
        noneOrOne();
        oneSignAlone();
        beginning();
        end();
        anchorsHaveNoSigns();
        anyByte();
        groups();
        escapes();
        items();
        otherItems();
        ranges();
        rangeOrder();
        itemsAtLeastOne();
        bytesThatAreNoItems();
        otherBytes();
        bytesThatAreNoAtoms();
        longest();
        endless();
        shortPatterns();
        Check.end();
    }

    private static void goes(String want, String text, String pattern) {
        Check.operation(27, want, "'" + text + "'", "'" + pattern + "'");
    }

    /** Whether the whole of a text, not some part of it, goes with a pattern. */
    private static void all(String want, String text, String pattern) {
        goes(want, text, "^(" + pattern + ")$");
    }

    private static void noPattern(String pattern) {
        goes("error", "", pattern);
        goes("error", "a", pattern);
        goes("error", pattern, pattern);
    }

    private static void someParts() {
        Check.sentence("Promise 8, 27 GOES", "whether some part of TEXT a [..] goes with the PATTERN");
        for (int start = 0; start < 24; start++) {
            goes("true", ALPHABET, ALPHABET.substring(start, start + 1));
            goes("true", ALPHABET, ALPHABET.substring(start));
            goes("true", ALPHABET, ALPHABET.substring(0, start + 1));
        }
        goes("false", ALPHABET, "y");
        goes("false", ALPHABET, "xa");
        goes("false", ALPHABET, "ac");
        goes("false", "", "a");
        goes("false", "abc", "abcd");
        goes("true", "aab", "ab");
    }

    private static void emptyParts() {
        Check.sentence("Promise 8, 27 GOES", "also an empty one");
        for (String text : new String[] {"", "a", ALPHABET}) {
            goes("true", text, "");
            goes("true", text, "y*");
            goes("true", text, "y?");
            goes("false", text, "y+");
            goes("true", text, "()");
        }
    }

    private static void operands() {
        Check.sentence("Terms", "Where an operand is an ERROR, or of another kind than told, a call is an ERROR");
        for (String other : new String[] {"true", "false", "0", "1", "#0", "#1", "error", "1/0"}) {
            Check.operation(27, "error", other, "'a'");
            Check.operation(27, "error", other, "''");
            Check.operation(27, "error", "'a'", other);
            Check.operation(27, "error", "''", other);
        }
    }

    private static void patternTags() {
        Check.sentence("Promise 8, 27 GOES", "that TEXT b of tag 0 is");
        for (String tag : new String[] {"", "a", "z"}) {
            Check.operation(27, "true", "'ab'" + tag, "'b'");
            Check.operation(27, "false", "'ab'" + tag, "'c'");
            Check.operation(27, "error", "'ab'" + tag, "'b'a");
            Check.operation(27, "error", "'ab'" + tag, "'b'z");
            Check.operation(27, "error", "''" + tag, "''a");
        }
    }

    private static void alternatives() {
        Check.sentence("Promise 8, a PATTERN", "it goes with what one of them goes with");
        for (String text : new String[] {"ab", "cd", "e"}) {
            all("true", text, "ab|cd|e");
        }
        for (String text : new String[] {"", "a", "b", "ad", "abd", "acd", "abcd", "abe", "c", "ee"}) {
            all("false", text, "ab|cd|e");
        }
        goes("true", "xcdx", "ab|cd");
        goes("true", "axxb", "^a|^b");
        goes("true", "xxb", "^a|b$");
        goes("false", "xbx", "^a|b$");
    }

    private static void noPieces() {
        Check.sentence("Promise 8, a PATTERN", "each of PIECES one behind the other, perhaps none");
        for (String pattern : new String[] {"", "|", "||", "a|", "|a", "a||b", "()", "(|)", "(a|)", "(|a)", "()()"}) {
            all("true", "", pattern);
            all("false", "c", pattern);
        }
        all("true", "a", "|a");
        all("true", "a", "a|");
        all("true", "b", "a||b");
        all("false", "a", "");
        all("false", "a", "|");
    }

    private static void pieces() {
        Check.sentence("Promise 8, a PATTERN", "one behind the other [..] part behind part");
        all("true", "abc", "abc");
        all("false", "acb", "abc");
        all("false", "ab", "abc");
        all("false", "abcc", "abc");
        all("true", "aabbc", "a*b*c");
        all("false", "abab", "a*b*");
        all("true", "abab", "(a*b*)*");
        all("true", "abcabc", "(a|b|c)*(abc)");
    }

    private static void noneOrMore() {
        Check.sentence("Promise 8, a PATTERN", "* (none or more of it, one behind the other)");
        for (int length = 0; length <= 24; length++) {
            all("true", "a".repeat(length), "a*");
            all(Boolean.toString(length % 2 == 0), "a".repeat(length), "(aa)*");
            if (length < 24) {
                all("false", "a".repeat(length) + "b", "a*");
                all("true", "a".repeat(length) + "b", "a*b");
            }
        }
        all("true", "ab", "ab*");
        all("true", "a", "ab*");
        all("false", "abab", "ab*");
        all("true", "abab", "(ab)*");
        all("false", "aba", "(ab)*");
        all("true", "abba", "[ab]*");
        all("true", "..", "\\.*");
        all("true", "xyz", ".*");
    }

    private static void oneOrMore() {
        Check.sentence("Promise 8, a PATTERN", "+ (one or more)");
        for (int length = 0; length <= 24; length++) {
            all(Boolean.toString(length >= 1), "a".repeat(length), "a+");
            all(Boolean.toString(length >= 2 && length % 2 == 0), "a".repeat(length), "(aa)+");
        }
        all("false", "a", "ab+");
        all("true", "ab", "ab+");
        all("true", "abb", "ab+");
        all("false", "abab", "ab+");
        all("true", "abab", "(ab)+");
        all("true", "ba", "[ab]+");
        all("false", "", ".+");
        all("false", "", "\\.+");
    }

    private static void noneOrOne() {
        Check.sentence("Promise 8, a PATTERN", "? (none or one)");
        all("true", "", "a?");
        all("true", "a", "a?");
        all("false", "aa", "a?");
        all("false", "b", "a?");
        all("true", "ac", "ab?c");
        all("true", "abc", "ab?c");
        all("false", "abbc", "ab?c");
        all("true", "", "(ab)?");
        all("true", "ab", "(ab)?");
        all("false", "a", "(ab)?");
        all("false", "abab", "(ab)?");
        all("true", "", "[ab]?");
        all("false", "ab", "[ab]?");
        all("true", "aa", "a?a?");
        all("false", "aaa", "a?a?");
    }

    private static void oneSignAlone() {
        Check.sentence("Promise 8, a PATTERN", "A piece is an ATOM, or one with * [..], + [..] or ? [..] behind");
        for (String first : new String[] {"*", "+", "?"}) {
            all("true", "a", "a" + first);
            noPattern(first);
            noPattern("|" + first);
            noPattern("(" + first + ")");
            noPattern("(a|" + first + ")");
            for (String second : new String[] {"*", "+", "?"}) {
                noPattern("a" + first + second);
                noPattern("(a)" + first + second);
                noPattern("[a]" + first + second);
                all("true", "a" + second, "a" + first + "\\" + second);
                all("true", "a", "(a" + first + ")" + second);
            }
        }
    }

    private static void beginning() {
        Check.sentence("Promise 8, a PATTERN", "^ [..] at the text's beginning [..] alone");
        for (String text : new String[] {"", "a", "ba", "bba"}) {
            goes("true", text, "^");
            goes(Boolean.toString(text.startsWith("a")), text, "^a");
            goes(Boolean.toString(text.startsWith("b")), text, "^b");
        }
        goes("false", "^a", "^^a");
        goes("true", "a", "^^a");
        goes("false", "aa", "a^a");
        goes("true", "ab", "(^|a)b");
        goes("false", "cb", "(^|a)b");
        goes("true", "b", "(^|a)b");
        goes("true", "ab", "(^a)+b");
        goes("false", "aab", "(^a)+b");
        goes("true", "", "^^^");
    }

    private static void end() {
        Check.sentence("Promise 8, a PATTERN", "$, which go with nothing, at the text's [..] end, alone");
        for (String text : new String[] {"", "a", "ab", "abb", ALPHABET}) {
            goes("true", text, "$");
            goes(Boolean.toString(text.endsWith("a")), text, "a$");
            goes(Boolean.toString(text.endsWith("b")), text, "b$");
            goes(Boolean.toString(text.isEmpty()), text, "^$");
            goes(Boolean.toString(text.isEmpty()), text, "$^");
        }
        goes("true", ALPHABET, "x$");
        goes("false", ALPHABET, "w$");
        goes("false", "a$", "a$$");
        goes("true", "a", "a$$");
        goes("false", "aa", "a$a");
        goes("true", "ba", "b($|a)");
        goes("false", "bc", "b($|a)");
        goes("true", "ba", "b(a$)+");
        goes("false", "baa", "b(a$)+");
        goes("true", "baa", "b(a$)*");
    }

    private static void anchorsHaveNoSigns() {
        Check.sentence("Promise 8, a PATTERN", "A piece is an ATOM, or one with * [..] behind; or ^ or $");
        for (String anchor : new String[] {"^", "$"}) {
            for (String sign : new String[] {"*", "+", "?"}) {
                noPattern(anchor + sign);
                noPattern("a" + anchor + sign);
                noPattern("(" + anchor + sign + ")");
                all("true", "", "(" + anchor + ")" + sign);
            }
        }
    }

    private static void anyByte() {
        Check.sentence("Promise 8, a PATTERN", ". (any byte)");
        for (char b = 32; b <= 126; b++) {
            all("true", "" + b, ".");
            all("false", "" + b + b, ".");
        }
        all("false", "", ".");
        goes("true", ALPHABET, ".".repeat(24));
        goes("false", ALPHABET.substring(1), ".".repeat(24));
    }

    private static void groups() {
        Check.sentence("Promise 8, a PATTERN", "( ALTERNATIVES )");
        all("true", "ac", "(a|b)c");
        all("true", "bc", "(a|b)c");
        all("false", "abc", "(a|b)c");
        all("true", "abcd", "a(b(c)d)");
        goes("true", "", "(".repeat(12) + ")".repeat(12));
        goes("true", "xay", "(".repeat(11) + "a" + ")".repeat(11));
        goes("false", "xby", "(".repeat(11) + "a" + ")".repeat(11));
        String[] open = {"(", ")", "a(", "a)", "(a", ")a", "(()", "())", ")(", "(a|b", "a|b)", "(a))", "((a)"};
        for (String pattern : open) {
            noPattern(pattern);
        }
        noPattern("(".repeat(24));
        noPattern(")".repeat(24));
        noPattern("(".repeat(13) + ")".repeat(11));
        noPattern("(".repeat(11) + ")".repeat(13));
    }

    private static void escapes() {
        Check.sentence("Promise 8, a PATTERN", "\\ and a byte (that byte)");
        for (char b = 32; b <= 126; b++) {
            all("true", "" + b, "\\" + b);
            all("false", b == 'a' ? "b" : "a", "\\" + b);
            all("false", "", "\\" + b);
            all("true", "" + b + b, "\\" + b + "+");
        }
        noPattern("\\");
        noPattern("a\\");
        noPattern("\\\\\\");
        noPattern("(\\)");
        noPattern("(a\\)");
        all("true", "\\", "\\\\");
        goes("true", "abcabcabcabc", "\\a\\b\\c\\a\\b\\c\\a\\b\\c\\a\\b\\c");
        noPattern("\\a\\b\\c\\a\\b\\c\\a\\b\\c\\a\\bc\\");
    }

    private static void items() {
        Check.sentence("Promise 8, a PATTERN", "[ ITEMS ] (a byte that is in one of its items");
        for (char b = 32; b <= 126; b++) {
            if (NO_ITEMS.indexOf(b) < 0) {
                all("true", "" + b, "[" + b + "]");
                all("false", b == '!' ? "~" : "!", "[" + b + "]");
                all("true", "" + b, "[<" + b + ">]");
            }
        }
        all("false", "", "[a]");
        all("false", "aa", "[a]");
        all("true", "a", "[abc]");
        all("true", "b", "[abc]");
        all("true", "c", "[abc]");
        all("false", "d", "[abc]");
        all("true", "c", "[ac-e]");
        all("true", "x", "[a-cx-z]");
        all("false", "w", "[a-cx-z]");
        all("false", "d", "[a-cx-z]");
        all("true", "b", "[bbb]");
    }

    private static void otherItems() {
        Check.sentence("Promise 8, a PATTERN", "with ^ behind [ one that is in none");
        for (char b = 32; b <= 126; b++) {
            all(Boolean.toString(b != 'a'), "" + b, "[^a]");
            all(Boolean.toString(b < 'b' || b > 'd'), "" + b, "[^b-d]");
            all(Boolean.toString(b != 'a' && (b < 'x' || b > 'z')), "" + b, "[^ax-z]");
            all("false", "" + b, "[^ -~]");
        }
        all("false", "", "[^a]");
        all("false", "bb", "[^a]");
        goes("false", "aaaa", "[^a]");
        goes("true", "aaba", "[^a]");
    }

    private static void ranges() {
        Check.sentence("Promise 8, a PATTERN", "two with - between [..] (all bytes between, with both)");
        for (char b = 32; b <= 126; b++) {
            all("true", "" + b, "[ -~]");
            all(Boolean.toString(b >= '!' && b <= '}'), "" + b, "[!-}]");
            all(Boolean.toString(b == 'm'), "" + b, "[m-m]");
            all(Boolean.toString(b >= 'm' && b <= 'n'), "" + b, "[m-n]");
            // Between these lie the bytes that are no items themselves.
            all(Boolean.toString(b >= '[' && b <= '_'), "" + b, "[[-_]");
            all(Boolean.toString(b >= ',' && b <= '.'), "" + b, "[,-.]");
        }
    }

    private static void rangeOrder() {
        Check.sentence("Promise 8, a PATTERN", "the first one not above the second");
        for (char low = 32; low <= 126; low++) {
            for (char high = 32; high <= 126; high++) {
                boolean sound = NO_ITEMS.indexOf(low) < 0 && NO_ITEMS.indexOf(high) < 0 && low <= high;
                goes(sound ? "true" : "error", "" + high, "[" + low + "-" + high + "]");
            }
        }
    }

    private static void itemsAtLeastOne() {
        Check.sentence("Promise 8, a PATTERN", "ITEMS, one at least");
        String[] empty = {"[]", "[^]", "[", "[^", "a[]", "[]a", "[]]", "[^]]", "[][a]", "([])", "[]*"};
        for (String pattern : empty) {
            noPattern(pattern);
        }
        all("true", "a", "[a]");
        all("true", "b", "[^a]");
        for (String pattern : new String[] {"[a", "[^a", "[a-", "[a-b", "[^a-b", "[a-bc", "(a[b)", "[a\\"}) {
            noPattern(pattern);
        }
        noPattern("[abcdefghijklmnopqrstuvw");
        goes("true", "zz~v", "[abcdefghijklmnopqrstuv]");
    }

    private static void bytesThatAreNoItems() {
        Check.sentence("Promise 8, a PATTERN", "they are no ^ ] - \\");
        for (char b = 32; b <= 126; b++) {
            boolean sound = NO_ITEMS.indexOf(b) < 0;
            // A - here is no item, but stands between two.
            goes(sound || b == '-' ? "true" : "error", "x", "[a" + b + "x]");
            goes(sound && b <= 'x' ? "true" : "error", "x", "[" + b + "-x]");
            goes(sound ? "true" : "error", " ", "[ -" + b + "]");
            goes(sound ? "true" : "error", "y", "[^" + (b == 'y' ? 'z' : b) + "x]");
        }
        String[] wrong = {
            "[a-]", "[-a]", "[-]", "[--]", "[---]", "[a--]", "[a-c-e]", "[^^]", "[a^]", "[\\]", "[\\]]", "[\\a]"
        };
        for (String pattern : wrong) {
            noPattern(pattern);
        }
        for (char b : "$*+?().|[{}".toCharArray()) {
            all("true", "" + b, "[" + b + "]");
            all("false", "a", "[" + b + "]");
            all("false", "" + b, "[^" + b + "]");
        }
    }

    private static void otherBytes() {
        Check.sentence("Promise 8, a PATTERN", "or any other byte but [..] (that byte)");
        for (char b = 32; b <= 126; b++) {
            if (SPECIAL.indexOf(b) < 0 && NO_ATOMS.indexOf(b) < 0) {
                all("true", "" + b, "" + b);
                all("false", b == 'a' ? "b" : "a", "" + b);
                all("false", "", "" + b);
                all("true", "" + b + b, b + "*");
            }
        }
        all("true", "a-b", "a-b");
        all("true", "a{2}", "a{2}");
        all("false", "aa", "a{2}");
    }

    private static void bytesThatAreNoAtoms() {
        Check.sentence("Promise 8, a PATTERN", "any other byte but ) ] * + ?");
        for (char b : NO_ATOMS.toCharArray()) {
            noPattern("" + b);
            noPattern(b + "a");
            noPattern("a|" + b);
            noPattern("^" + b);
        }
        noPattern("a]");
        noPattern("[a]]");
        noPattern("(])");
    }

    private static void longest() {
        Check.sentence("Terms", "a TEXT of at most 24 bytes");
        goes("true", ALPHABET, ALPHABET);
        goes("false", ALPHABET, ALPHABET.substring(1) + "y");
        goes("true", ALPHABET, "^" + ALPHABET.substring(0, 23));
        goes("true", ALPHABET, ALPHABET.substring(1) + "$");
        goes("true", ALPHABET, "|".repeat(24));
        goes("true", ALPHABET, "^".repeat(24));
        goes("true", ALPHABET, "$".repeat(24));
        goes("true", ALPHABET, "y?".repeat(12));
        goes("true", ALPHABET, ".?".repeat(11) + "x$");
        goes("true", ALPHABET, "(a)".repeat(7) + "|bc");
        goes("false", ALPHABET, "(a)*".repeat(5) + "bd");
        goes("true", ALPHABET, "(a)*".repeat(5) + "b");
        goes("true", ALPHABET, "()*".repeat(8));
        goes("true", ALPHABET, "(.+)+".repeat(4) + "(.)?");
        goes("false", ALPHABET, "^" + "(.+)+".repeat(4) + "$a");
        goes("true", ALPHABET, "[x]|[y]|[z]|[0]|[1]|[2]");
        goes("error", ALPHABET, ALPHABET.substring(0, 23) + "(");
        goes("error", ALPHABET, ALPHABET.substring(0, 23) + "[");
        goes("error", ALPHABET, ALPHABET.substring(0, 23) + "\\");
        goes("error", ALPHABET, ALPHABET.substring(0, 23) + ")");
    }

    /** Parts that go with nothing, again and again: they are to end, and to be right. */
    private static void endless() {
        Check.sentence("Promise 8, a PATTERN", "* (none or more of it, one behind the other), + (one or more)");
        String[] patterns = {
            "()*", "()+", "(a*)*", "(a*)+", "(a?)*", "(a?)+", "(|a)*", "(|a)+", "((a*)*)*", "(^)*a*", "a*($)+",
            "(a*|b*)*"
        };
        for (String pattern : patterns) {
            all("true", "", pattern);
            all(Boolean.toString(pattern.contains("a")), "aaa", pattern);
            all("false", "aac", pattern);
        }
        String many = "a".repeat(23);
        goes("false", many + "b", "^(((((a*)*)*)*)*)*$");
        goes("true", many + "a", "^(((((a*)*)*)*)*)*$");
        goes("false", many + "b", "^(a|a|aa|aaa|a*)+$");
        goes("true", many, "a?a?a?a?a?a?aaaaaaaaaaaa");
        goes("false", "a".repeat(11), "a?a?a?a?a?a?aaaaaaaaaaaa");
        goes("true", "a".repeat(12), "a?a?a?a?a?a?aaaaaaaaaaaa");
    }

    /** All patterns, and all that are none, of up to four of these bytes. */
    private static void shortPatterns() {
        Check.sentence("Promise 8, 27 GOES", "ERROR when it is none");
        String bytes = "ab|*+?()^$.[]-\\";
        for (int length = 0; length <= 4; length++) {
            int many = (int) Math.pow(bytes.length(), length);
            for (int i = 0; i < many; i++) {
                StringBuilder pattern = new StringBuilder();
                for (int left = i, place = 0; place < length; place++, left /= bytes.length()) {
                    pattern.append(bytes.charAt(left % bytes.length()));
                }
                shortPattern(pattern.toString());
            }
        }
    }

    private static void shortPattern(String pattern) {
        FunctionRows x = new FunctionRows();
        int b = Check.text(x, pattern, 0);
        for (String text : new String[] {"", "aab", "b-"}) {
            Boolean goes = Model.goes(text, pattern);
            String due = goes == null ? "error" : goes.toString();
            int e = x.call(27, Check.text(x, text, 0), b, 0);
            Check.due("GOES '" + text + "' '" + pattern + "'", Check.reckoned(x, e), due);
        }
    }
}
