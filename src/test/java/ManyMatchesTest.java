/** Promises 11 and 12. */
public final class ManyMatchesTest {
    private static final String FULL = "abcdabcdabcdabcdabcdabcdabcdabcd";

    public static void main(String[] args) {
        counts("a", "", 0, 0);
        counts("", "", 1, 1);
        counts("", "abc", 4, 15);
        counts("a", "aaa", 3, 7);
        counts("aa", "aaaaa", 2, 15);
        counts("a*", "baac", 4, 31);
        counts("a*?", "aa", 3, 7);
        counts("a+", "baacab", 2, 22);
        counts("a|", "aab", 4, 15);
        counts("^", "aab", 1, 1);
        counts("$", "aab", 1, 8);
        counts("^a", "aab", 1, 1);
        counts("^|b", "abb", 3, 7);
        counts("ab|b", "abb", 2, 7);
        counts("a$", "aaa", 1, 4);
        counts("", FULL, 33, -1);
        counts(".", FULL, 32, -1);
        counts("d", FULL, 8, 0x88888888);
        counts("$", FULL, 1, 0);
        counts("^", FULL, 1, 1);
        counts(".*", FULL, 2, -1);
        counts("d?$", FULL, 2, 1 << 31);
        counts("b", "aaaaaaaaaaaaaaaaaaaaaaaaaaaaaaab", 1, 1 << 31);
        noPatternForgetsToo();
        Check.finish();
    }

    private static void counts(String pattern, String text, int count, int starts) {
        LazyTaggedMatcher matcher = Notation.matcher(pattern, text);
        String what = pattern + " on " + text;
        matcher.find(0);
        Check.due(what + ": count()", matcher.count(), count);
        Check.spans(what + " after count()", matcher);
        matcher.find(0);
        Check.due(what + ": starts()", matcher.starts(), starts);
        Check.spans(what + " after starts()", matcher);
        Check.due(what + ": count() again", matcher.count(), count);
    }

    private static void noPatternForgetsToo() {
        LazyTaggedMatcher matcher = Notation.matcher("", "ab");
        Check.due("token(7, 0)", matcher.token(7, 0), true);
        Check.due("count() before compile", matcher.count(), 3);
        Check.due("starts() before compile", matcher.starts(), 7);
        Check.due("compile()", matcher.compile(), LazyTaggedMatcher.SYNTAX);
        Check.due("no pattern: count()", matcher.count(), 0);
        Check.due("no pattern: starts()", matcher.starts(), 0);
        Check.spans("no pattern", matcher);
    }
}
