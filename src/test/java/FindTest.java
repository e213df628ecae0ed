/** Promises 8, 9 and 10. */
public final class FindTest {
    public static void main(String[] args) {
        leastPlace();
        wrongFrom();
        failureForgets();
        wholeOnly();
        wrongGroup();
        Check.finish();
    }

    private static void leastPlace() {
        LazyTaggedMatcher matcher = Notation.matcher("ab*", "caabbca");
        int[] starts = {1, 1, 2, 6, 6, 6, 6};
        int[] ends = {2, 2, 5, 7, 7, 7, 7};
        for (int from = 0; from < starts.length; from++) {
            Check.due("find(" + from + ")", matcher.find(from), true);
            Check.spans("find(" + from + ")", matcher, starts[from], ends[from]);
        }
        Check.due("find(7)", matcher.find(7), false);
        Check.spans("find(7)", matcher);
        LazyTaggedMatcher empty = Notation.matcher("", "ab");
        Check.due("empty pattern: find(2)", empty.find(2), true);
        Check.spans("empty pattern: find(2)", empty, 2, 2);
        LazyTaggedMatcher anchored = Notation.matcher("^a|b", "aaab");
        Check.due("^a|b: find(1)", anchored.find(1), true);
        Check.spans("^a|b: find(1)", anchored, 3, 4);
    }

    private static void wrongFrom() {
        int[] wrong = {-1, 3, 4, 32, 33, 64, Integer.MIN_VALUE, Integer.MAX_VALUE};
        for (int from : wrong) {
            LazyTaggedMatcher matcher = Notation.matcher("()", "ab");
            Check.due("find(0)", matcher.find(0), true);
            Check.due("find(" + from + ")", matcher.find(from), false);
            Check.spans("find(" + from + ")", matcher);
        }
        LazyTaggedMatcher full = Notation.matcher("$", "abcdabcdabcdabcdabcdabcdabcdabcd");
        Check.due("32: find(32)", full.find(32), true);
        Check.spans("32: find(32)", full, 32, 32);
        Check.due("32: find(33)", full.find(33), false);
    }

    private static void failureForgets() {
        LazyTaggedMatcher matcher = Notation.matcher("(a)b", "ab");
        Check.due("find(0)", matcher.find(0), true);
        Check.due("find(1)", matcher.find(1), false);
        Check.spans("after find(1)", matcher);
        Check.due("whole()", matcher.whole(), true);
        Check.spans("after whole()", matcher, 0, 2, 0, 1);
        Notation.addText(matcher, "a");
        Check.due("whole()", matcher.whole(), false);
        Check.spans("after whole() of aba", matcher);
        Check.due("find(0)", matcher.find(0), true);
        Check.due("compile()", matcher.compile(), LazyTaggedMatcher.OK);
        Check.due("token(7)", matcher.token(7, 0) && matcher.token(7, 0), true);
        Check.due("compile()", matcher.compile(), LazyTaggedMatcher.SYNTAX);
        Check.due("no pattern: find(0)", matcher.find(0), false);
        Check.due("no pattern: whole()", matcher.whole(), false);
    }

    private static void wholeOnly() {
        Check.due("a|ab on ab: whole()", Notation.matcher("a|ab", "ab").whole(), true);
        Check.due("b on ab: whole()", Notation.matcher("b", "ab").whole(), false);
        Check.due("a on ab: whole()", Notation.matcher("a", "ab").whole(), false);
        Check.due("empty on empty: whole()", Notation.matcher("", "").whole(), true);
        Check.due("empty on a: whole()", Notation.matcher("", "a").whole(), false);
        LazyTaggedMatcher lazy = Notation.matcher("(a*?)(a??)", "aaa");
        Check.due("lazy: find(0)", lazy.find(0), true);
        Check.spans("lazy: find(0)", lazy, 0, 0, 0, 0, 0, 0);
        Check.due("lazy: whole()", lazy.whole(), true);
        Check.spans("lazy: whole()", lazy, 0, 3, 0, 2, 2, 3);
        LazyTaggedMatcher ways = Notation.matcher("(a|ab)(c|bcd)(d*)", "abcd");
        Check.due("ways: whole()", ways.whole(), true);
        Check.spans("ways: whole()", ways, 0, 4, 0, 1, 1, 4, 4, 4);
    }

    private static void wrongGroup() {
        LazyTaggedMatcher noted = Notation.matcher("(a)(b)(c)", "dabc");
        Check.due("find(0)", noted.find(0), true);
        for (int i = 1; i <= 70; i++) {
            noSuchGroup(noted, -i);
            noSuchGroup(noted, 3 + i);
        }
        noSuchGroup(noted, Integer.MIN_VALUE);
        noSuchGroup(noted, Integer.MAX_VALUE);
        Check.spans("all noted", noted, 1, 4, 1, 2, 2, 3, 3, 4);
        LazyTaggedMatcher matcher = Notation.matcher("(a)(b)?", "a");
        Check.due("find(0)", matcher.find(0), true);
        Check.spans("not noted", matcher, 0, 1, 0, 1);
        LazyTaggedMatcher last = Notation.matcher(".*()()($)", "abcdabcdabcdabcdabcdabcdabcdabcd");
        Check.due("32: find(0)", last.find(0), true);
        Check.spans("32", last, 0, 32, 32, 32, 32, 32, 32, 32);
    }

    private static void noSuchGroup(LazyTaggedMatcher matcher, int g) {
        Check.due("group(" + g + ", false)", matcher.group(g, false), -1);
        Check.due("group(" + g + ", true)", matcher.group(g, true), -1);
    }
}
