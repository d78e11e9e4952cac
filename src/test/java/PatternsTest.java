/** Promise 8, operation 27: what goes with a pattern, and what is no pattern. */
public final class PatternsTest {
    private static final String LONG = "abcabcabcabcabcabcabcabc";

    public static void main(String[] args) {
        sound();
        repeated();
        anchored();
        items();
        none();
        tags();
        large();
        oneAfterAnother();
        Check.end();
    }

    private static void goes(String text, String pattern, String want) {
        Check.operation(27, want, "'" + text + "'", "'" + pattern + "'");
    }

    private static void sound() {
        goes("", "", "true");
        goes("abc", "", "true");
        goes("abc", "b", "true");
        goes("abc", "bc", "true");
        goes("abc", "ac", "false");
        goes("abc", "abcd", "false");
        goes("", "a", "false");
        goes("abc", "a.c", "true");
        goes("ac", "a.c", "false");
        goes("", ".", "false");
        goes(" ", ".", "true");
        goes("~", ".", "true");
        goes("abc", "x|b", "true");
        goes("abc", "x|y", "false");
        goes("abc", "x|", "true");
        goes("abc", "|x", "true");
        goes("abc", "|", "true");
        goes("abc", "a(x|b)c", "true");
        goes("abc", "a(x|y)c", "false");
        goes("ac", "a(x|)c", "true");
        goes("ac", "a()c", "true");
        goes("acd", "ab|cd", "true");
        goes("abd", "^a(b|c)d$", "true");
        goes("abd", "^(ab|c)d$", "true");
        goes("ad", "^(ab|c)d$", "false");
        goes("a.c", "\\.", "true");
        goes("abc", "\\.", "false");
        goes("a\\c", "\\\\", "true");
        goes("abc", "\\b", "true");
        goes("a*", "\\*$", "true");
        goes("a|b", "a\\|b", "true");
        goes("(", "\\(", "true");
        goes("a-b{1},'", "-b{1},'", "true");
        goes("ABC", "b", "false");
    }

    private static void repeated() {
        goes("aaa", "^a*$", "true");
        goes("", "^a*$", "true");
        goes("aab", "^a*$", "false");
        goes("aaa", "^a+$", "true");
        goes("", "^a+$", "false");
        goes("a", "^a?$", "true");
        goes("", "^a?$", "true");
        goes("aa", "^a?$", "false");
        goes("ac", "^ab*c$", "true");
        goes("ac", "^ab+c$", "false");
        goes("abbbc", "^ab+c$", "true");
        goes("abbc", "^ab?c$", "false");
        goes("ababab", "^(ab)+$", "true");
        goes("ababa", "^(ab)+$", "false");
        goes("abcba", "^[a-c]*$", "true");
        goes("a..b", "^a\\.+b$", "true");
        goes("aab", "^(a*)*b$", "true");
        goes("b", "^(a*)+b$", "true");
        goes("aac", "^(a*)*b$", "false");
        goes("ba", "^(a*|b)*$", "true");
        goes("ca", "^(a*|b)*$", "false");
        goes("aab", "^(a*|b)$", "false");
        goes("ab", "^(a*|b)$", "false");
        goes("aab", "^(a+|b)$", "false");
        goes("aba", "^(a?b)*a?$", "true");
        goes("aac", "^(a|b*)c$", "false");
        goes("bbc", "^(a|b*)c$", "true");
        goes("ac", "^(a|b*)?c$", "true");
        goes("c", "^(a|b+)?c$", "true");
        goes("abc", "^()*abc()+$", "true");
        goes("abc", "(^)*abc($)+", "true");
        goes("aaaa", "^(aa)*$", "true");
        goes("aaa", "^(aa)*$", "false");
        goes("aaaaa", "^(aa|aaa)+$", "true");
        goes("a", "^(aa|aaa)+$", "false");
        goes("abab", "^(a(b(a(b)?)?)?)?$", "true");
        goes("abb", "^(a(b(a(b)?)?)?)?$", "false");
    }

    private static void anchored() {
        goes("abc", "^a", "true");
        goes("abc", "^b", "false");
        goes("abc", "c$", "true");
        goes("abc", "b$", "false");
        goes("abc", "^abc$", "true");
        goes("abc", "^$", "false");
        goes("", "^$", "true");
        goes("", "$^", "true");
        goes("abc", "$", "true");
        goes("abc", "^", "true");
        goes("abc", "^^a", "true");
        goes("abc", "c$$", "true");
        goes("abc", "a^b", "false");
        goes("abc", "a$b", "false");
        goes("abc", "(^|x)a", "true");
        goes("abc", "(^|x)b", "false");
        goes("abc", "b(c$|d)", "true");
        goes("a^b$", "\\^b\\$", "true");
        goes("ab", "(a|^)b", "true");
        goes("abc", "^x|c$", "true");
    }

    private static void items() {
        goes("abc", "[b]", "true");
        goes("abc", "[xyz]", "false");
        goes("abc", "[x-zc]", "true");
        goes("abc", "[b-b]", "true");
        goes("abc", "[^a-c]", "false");
        goes("abcd", "[^a-c]", "true");
        goes("", "[^a]", "false");
        goes("]", "[^a]", "true");
        goes("^", "[ -~]", "true");
        goes("-", "[+-/]", "true");
        goes("[", "[[]", "true");
        goes("a", "[[-a]", "true");
        goes("`", "[[-a]", "true");
        goes("\\", "[[-a]", "true");
        goes("Z", "[[-a]", "false");
        goes("a", "[.]", "false");
        goes(".", "[.]", "true");
        goes("$", "[$*+?()|]", "true");
        goes("|", "[$*+?()|]", "true");
        goes("a", "[$*+?()|]", "false");
        goes("abc", "^[a][b][c]$", "true");
        goes("ad", "^[a-bd-e]+$", "true");
        goes("ac", "^[a-bd-e]+$", "false");
        goes("ac", "^[^a-bd-e]+$", "false");
        goes("b", "[^ab-c]", "false");
    }

    private static void none() {
        String[] patterns = {
            "*", "+", "?", ")", "]", "(", "[", "\\", "a**", "a*+", "a+?", "a??", "|*", "(*a)", "(a", "a)", "(a))",
            "((a)", "^*", "$+", "^?", "a|*", "[]", "[^]", "[a", "[^a", "[a-", "[a-]", "[-a]", "[-]", "[b-a]", "[a-c-e]",
            "[a--]", "[\\]", "[\\\\]", "[a\\]", "[]a]", "[^^]", "[a^]", "[a-^]", "[^-a]", "[ab]]", "a]", "()(", "x(|",
            "abc\\", "(a|b", "a|b)", "[a-\\]", "[+--]"
        };
        for (String pattern : patterns) {
            goes("abc", pattern, "error");
            goes("", pattern, "error");
        }
    }

    private static void tags() {
        Check.operation(27, "true", "'abc'e", "'b'");
        Check.operation(27, "error", "'abc'e", "'b'e");
        Check.operation(27, "error", "'abc'", "'b'e");
    }

    /** Patterns of 24 bytes, texts of 24 bytes, many ways to go. */
    private static void large() {
        goes(LONG, "^" + "(abc)+" + "(abc)+" + "(abc)+" + "(abc)", "true");
        goes(LONG, LONG, "true");
        goes(LONG, "........................", "true");
        goes("bcabcabcabcabcabcabcabc", "........................", "false");
        goes(LONG, "x|x|x|x|x|x|x|x|x|x|x|bc", "true");
        goes(LONG, "||||||||||||||||||||||||", "true");
        goes(LONG, "(((((((((((())))))))))))", "true");
        goes(LONG, "((((((((((((((((((((((((", "error");
        goes(LONG, "))))))))))))))))))))))))", "error");
        goes("aaaaaaaaaaaaaaaaaaaaaaaa", "^((((((a*)*)*)*)*)*)*$", "true");
        goes("aaaaaaaaaaaaaaaaaaaaaaab", "^((((((a*)*)*)*)*)*)*$", "false");
        goes("aaaaaaaaaaaaaaaaaaaaaaab", "^(a|a|a|a|a|a|a|a|aa)*$", "false");
        goes("aaaaaaaaaaaaaaaaaaaaaaaa", "a?a?a?a?a?a?aaaaaaaaaaaa", "true");
        goes(LONG, "(((((.+)+)+)+)+)+$", "true");
        goes("abcabcabcabcabcabcabcabz", "(((((.+)+)+)+)+)+c$", "false");
        goes(LONG, "\\a\\b\\c\\a\\b\\c\\a\\b\\c\\a\\b\\c", "true");
    }

    /** Nothing of a pattern, or of what was none, stays for the next one on the same object. */
    private static void oneAfterAnother() {
        String[] patterns = {"b", "((x", "c$", "a|(b", "x", "(a)(b", "^b", "^a", "[a", "", "(b)", "a)", "x*y", "abc"};
        String[] due = {
            "true", "error", "true", "error", "false", "error", "false", "true", "error", "true", "true", "error",
            "false", "true"
        };
        for (int before = 0; before < patterns.length; before++) {
            FunctionRows x = new FunctionRows();
            int text = Check.text(x, "abc", 0);
            for (String pattern : patterns) {
                x.call(27, text, Check.text(x, pattern, 0), 0);
            }
            for (int now = 0; now < patterns.length; now++) {
                Check.due("GOES " + patterns[before], Check.reckoned(x, 2 * before + 2), due[before]);
                Check.due("GOES " + patterns[now] + " behind it", Check.reckoned(x, 2 * now + 2), due[now]);
            }
        }
    }
}
