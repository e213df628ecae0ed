/** Promises 4 and 5. */
public final class CompileTest {
    private static final int OK = LazyTaggedMatcher.OK;
    private static final int SYNTAX = LazyTaggedMatcher.SYNTAX;
    private static final int LARGE = LazyTaggedMatcher.LARGE;

    public static void main(String[] args) {
        good();
        wrongToken();
        missingEnd();
        sizes();
        syntaxBeforeSize();
        faultyCompileLeavesNoPattern();
        resultIsForgottenTokensStay();
        manyInARow();
        Check.finish();
    }

    private static void compiles(String pattern, int answer, int place) {
        LazyTaggedMatcher matcher = new LazyTaggedMatcher();
        Notation.addTokens(matcher, pattern);
        Check.due(pattern + ": compile()", matcher.compile(), answer);
        Check.due(pattern + ": place()", matcher.place(), place);
        Check.due(pattern + ": wipe()", matcher.wipe(), Notation.tokens(pattern).length);
        Check.due(pattern + ": place() after wipe", matcher.place(), place);
    }

    private static void good() {
        String[] patterns = {"", "|", "||", "()", "(:)", "(|)", "(:|)*", "()*", "^", "$", "^*$+?", "^{0,4}", "a", ".", "[abcd]",
            "a*", "a+", "a?", "a*?", "a+?", "a??", "a{0,1}", "a{4,4}", "a|", "|a", "(a)(b)(c)", "(((a)))", "(:((:(a))))",
            "(a)|(b)|(c)", "a*b*", "(:(:(:(:(:(:(:(:(:(:(:(:))))))))))))"};
        for (String pattern : patterns) {
            compiles(pattern, OK, -1);
        }
    }

    private static void wrongToken() {
        String[] quantifiers = {"*", "+", "?", "*?", "+?", "??", "{1,2}"};
        for (String quantifier : quantifiers) {
            compiles(quantifier, SYNTAX, 0);
            compiles("a|" + quantifier, SYNTAX, 2);
            compiles("(" + quantifier + ")", SYNTAX, 1);
            compiles("(:" + quantifier + ")", SYNTAX, 1);
            for (String before : quantifiers) {
                twoQuantifiers(before, quantifier);
            }
        }
        compiles(")", SYNTAX, 0);
        compiles("a)", SYNTAX, 1);
        compiles("(a))", SYNTAX, 3);
        compiles("(:a)*)(", SYNTAX, 4);
        compiles("a|b)|(", SYNTAX, 3);
        compiles("(a)(b)(c)(d)", SYNTAX, 9);
        compiles("((((a", SYNTAX, 3);
        compiles("()()()(:)(", SYNTAX, 8);
        compiles("(((:(", SYNTAX, 4);
        compiles("()()()(*", SYNTAX, 6);
        compiles("a**)", SYNTAX, 2);
    }

    // The two are added apart, as the notation would read * and ? in a row as one token.
    private static void twoQuantifiers(String first, String second) {
        LazyTaggedMatcher matcher = new LazyTaggedMatcher();
        Notation.addTokens(matcher, "ba");
        Notation.addTokens(matcher, first);
        Notation.addTokens(matcher, second);
        Notation.addTokens(matcher, "(");
        String what = "ba" + first + " " + second + "(";
        Check.due(what + ": compile()", matcher.compile(), SYNTAX);
        Check.due(what + ": place()", matcher.place(), 3);
    }

    private static void missingEnd() {
        compiles("(", SYNTAX, 1);
        compiles("(:", SYNTAX, 1);
        compiles("(a", SYNTAX, 2);
        compiles("(a|", SYNTAX, 3);
        compiles("((a)", SYNTAX, 4);
        compiles("(:(:a*)*", SYNTAX, 6);
        compiles("(:(:(:(:(:(:(:(:(:(:(:(:(:(:(:(:(:(:(:(:(:(:(:(:", SYNTAX, 24);
    }

    private static String times(int n, String part) {
        return part.repeat(n);
    }

    private static void sizes() {
        String nine4 = times(9, "a{4,4}");
        compiles(nine4, OK, -1);
        compiles(nine4 + "a", LARGE, 19);
        compiles(nine4 + "^", LARGE, 19);
        compiles(nine4 + "$", LARGE, 19);
        compiles(nine4 + ".", LARGE, 19);
        compiles(nine4 + "[a]", LARGE, 19);
        compiles(nine4 + "|", LARGE, 19);
        compiles(nine4 + "()", LARGE, 20);
        compiles(nine4 + "(:)", OK, -1);
        compiles(nine4 + "(:){4,4}", OK, -1);
        compiles(nine4 + "(:){3,4}", LARGE, 21);
        compiles(nine4 + "(:)*", LARGE, 21);
        compiles(nine4 + "(:)*?", LARGE, 21);
        compiles(nine4 + "(:)+", LARGE, 21);
        compiles(nine4 + "(:)+?", LARGE, 21);
        compiles(nine4 + "(:)?", LARGE, 21);
        compiles(nine4 + "(:)??", LARGE, 21);
        String size34 = times(8, "a{4,4}") + "aa";
        compiles(size34 + "()", OK, -1);
        compiles(size34 + "()a", LARGE, 21);
        compiles(size34 + "(a)", LARGE, 21);
        compiles(size34 + "a*", OK, -1);
        compiles(size34 + "a?", OK, -1);
        compiles(size34 + "a|", OK, -1);
        compiles(size34 + "a+", LARGE, 20);
        compiles(size34 + "a{0,1}", OK, -1);
        compiles(size34 + "a{1,2}", LARGE, 20);
        compiles(size34 + "(:){0,2}", OK, -1);
        compiles(size34 + "(:){0,3}", LARGE, 21);
        repeatedSizes();
    }

    private static void repeatedSizes() {
        compiles("(:" + times(4, "a{4,4}") + "a)+", OK, -1);
        compiles("(:" + times(4, "a{4,4}") + "a)+a", OK, -1);
        compiles("(:" + times(4, "a{4,4}") + "a)+aa", LARGE, 14);
        compiles("(:" + times(4, "a{4,4}") + "aa)+", LARGE, 13);
        compiles("(:" + times(4, "a{4,4}") + "aa)+?", LARGE, 13);
        compiles("(" + times(3, "a{4,4}") + "aaa)+a", OK, -1);
        compiles("(" + times(3, "a{4,4}") + "aaa)+aa", LARGE, 14);
        compiles("(:aaaaaaa){0,4}aaaa", OK, -1);
        compiles("(:aaaaaaa){0,4}aaaaa", LARGE, 15);
        compiles("((a)){0,4}a{4,4}a{4,4}a{4,4}", OK, -1);
        compiles("((a)){0,4}a{4,4}a{4,4}a{4,4}a", LARGE, 13);
        compiles(nested(2, "a{3,3}", "{3,3}"), OK, -1);
        compiles(nested(7, "a{4,4}", "{4,4}"), LARGE, 23);
        compiles(nested(7, "a{0,4}", "{0,4}"), LARGE, 23);
        compiles(nested(7, "a+", "+"), LARGE, 23);
        compiles(nested(3, "a+", "+"), OK, -1);
        compiles(nested(4, "a+", "+"), LARGE, 14);
        compiles(nested(5, "", "+"), OK, -1);
        compiles(nested(6, "", "+"), LARGE, 18);
        compiles(nested(8, "", "{4,4}"), OK, -1);
        compiles(nested(8, "", "{0,4}"), LARGE, 24);
    }

    /** The quantifier times deep: (: (: inside ) quantifier ) quantifier. */
    private static String nested(int deep, String inside, String quantifier) {
        return times(deep, "(:") + inside + times(deep, ")" + quantifier);
    }

    private static void syntaxBeforeSize() {
        compiles(times(10, "a{4,4}") + "(", SYNTAX, 21);
        compiles(times(10, "a{4,4}") + ")a", SYNTAX, 20);
        compiles(times(10, "a{4,4}") + "()()", LARGE, 24);
    }

    private static void hasNoPattern(String what, LazyTaggedMatcher matcher) {
        Check.spans(what, matcher);
        Check.due(what + ": find(0)", matcher.find(0), false);
        Check.due(what + ": whole()", matcher.whole(), false);
        Check.due(what + ": count()", matcher.count(), 0);
        Check.due(what + ": starts()", matcher.starts(), 0);
    }

    private static void faultyCompileLeavesNoPattern() {
        LazyTaggedMatcher matcher = Notation.matcher("a*", "aa");
        Check.due("find(0)", matcher.find(0), true);
        Notation.addTokens(matcher, "(");
        Check.spans("tokens alone forget nothing", matcher, 0, 2);
        Check.due("compile()", matcher.compile(), SYNTAX);
        hasNoPattern("after SYNTAX", matcher);
        Notation.addTokens(matcher, ")");
        hasNoPattern("before the next compile", matcher);
        Check.due("compile()", matcher.compile(), OK);
        Check.due("after OK: place()", matcher.place(), -1);
        Check.due("after OK: whole()", matcher.whole(), true);
        Check.spans("after OK", matcher, 0, 2, 2, 2);
        Notation.addTokens(matcher, times(9, "a{4,4}"));
        Check.due("compile()", matcher.compile(), LARGE);
        Check.due("after LARGE: place()", matcher.place(), 22);
        hasNoPattern("after LARGE", matcher);
        Check.due("after LARGE: wipe()", matcher.wipe(), 22);
        Check.due("no tokens: compile()", matcher.compile(), OK);
        Check.due("no tokens: place()", matcher.place(), -1);
        Check.due("no tokens: starts()", matcher.starts(), 7);
    }

    private static void resultIsForgottenTokensStay() {
        LazyTaggedMatcher matcher = Notation.matcher("(a)", "a");
        Check.due("whole()", matcher.whole(), true);
        Check.due("compile()", matcher.compile(), OK);
        Check.spans("after compile", matcher);
        Check.due("find(0)", matcher.find(0), true);
        Check.spans("the same pattern", matcher, 0, 1, 0, 1);
        Check.due("wipe()", matcher.wipe(), 3);
    }

    private static void manyInARow() {
        LazyTaggedMatcher matcher = new LazyTaggedMatcher();
        Notation.addTokens(matcher, nested(7, "a{4,4}", "{4,4}"));
        for (int i = 0; i < 100; i++) {
            Check.due("LARGE " + i + ": compile()", matcher.compile(), LARGE);
            Check.due("LARGE " + i + ": place()", matcher.place(), 23);
        }
        Notation.compile(matcher, "((a)|(b))*");
        Notation.addText(matcher, "ab");
        for (int i = 0; i < 50; i++) {
            Check.due("OK " + i + ": compile()", matcher.compile(), OK);
            Check.due("OK " + i + ": place()", matcher.place(), -1);
        }
        Check.due("at last: whole()", matcher.whole(), true);
        Check.spans("at last", matcher, 0, 2, 1, 2, 0, 1, 1, 2);
    }
}
