/** The boundary cases of promises 1 to 5: a method for each sentence that names one. */
public final class PatternBoundaryTest {
    private static final int OK = LazyTaggedMatcher.OK;
    private static final int SYNTAX = LazyTaggedMatcher.SYNTAX;
    private static final int LARGE = LazyTaggedMatcher.LARGE;
    private static final int LOWEST = Integer.MIN_VALUE;
    private static final int HIGHEST = Integer.MAX_VALUE;
    private static final String SIZE_36 = "a{4,4}".repeat(9);
    private static final String SIZE_37 = SIZE_36 + "a";

    public static void main(String[] args) {
        newObject();
        tokenAppends();
        tokenOfWrongKind();
        tokenOfWrongValue();
        tokenAboveTwentyFour();
        wipeOfNoneAndAll();
        wipeKeepsThePattern();
        compileOfNoTokens();
        firstWrongToken();
        fourthGroup();
        missingEnd();
        syntaxBeforeLarge();
        sizeAbove36();
        noPatternThen();
        resultIsForgotten();
        tokensStay();
        placeBeforeAnyCompile();
        placeOfTheLatestCompile();
        Check.finish();
    }

    private static void fill(LazyTaggedMatcher matcher, String pattern, String text) {
        Notation.compile(matcher, pattern);
        Notation.addText(matcher, text);
    }

    private static LazyTaggedMatcher withTokens(String pattern) {
        LazyTaggedMatcher matcher = new LazyTaggedMatcher();
        Notation.addTokens(matcher, pattern);
        return matcher;
    }

    private static void compiles(String pattern, int answer, int place) {
        LazyTaggedMatcher matcher = withTokens(pattern);
        Check.due(pattern + ": compile()", matcher.compile(), answer);
        Check.due(pattern + ": place()", matcher.place(), place);
    }

    private static void hasNoPattern(String what, LazyTaggedMatcher matcher) {
        Check.due(what + ": find(0)", matcher.find(0), false);
        Check.due(what + ": whole()", matcher.whole(), false);
        Check.due(what + ": count()", matcher.count(), 0);
        Check.due(what + ": starts()", matcher.starts(), 0);
    }

    private static void newObject() {
        Check.sentence("1: No tokens, no pattern, an empty text, no result");
        Check.due("no tokens: wipe()", new LazyTaggedMatcher().wipe(), 0);
        hasNoPattern("no pattern", new LazyTaggedMatcher());
        Check.due("an empty text: cut(1)", new LazyTaggedMatcher().cut(1), 0);
        Check.due("an empty text: ^$", Notation.matcher("^$", "").whole(), true);
        Check.due("an empty text: .", Notation.matcher(".", "").find(0), false);
        Check.spans("no result", new LazyTaggedMatcher());
        Check.due("no tokens: compile()", new LazyTaggedMatcher().compile(), OK);
        LazyTaggedMatcher room = new LazyTaggedMatcher();
        for (int i = 0; i < 32; i++) {
            Check.due("24 tokens fit: " + i, room.token(1, 0), i < 24);
            Check.due("32 characters fit: " + i, room.type(0), true);
        }
        Check.due("and no more", room.type(0), false);
    }

    private static void tokenAppends() {
        Check.sentence("2: Appends a token");
        LazyTaggedMatcher matcher = new LazyTaggedMatcher();
        for (int i = 0; i < 24; i++) {
            Check.due("token " + i, matcher.token(0, i * i / 3 % 4), true);
            Check.due("type " + i, matcher.type(i * i / 3 % 4), true);
            Check.due("compile " + i, matcher.compile(), OK);
            Check.due("whole " + i, matcher.whole(), true);
        }
    }

    private static void refused(String what, String pattern, int kind, int value) {
        LazyTaggedMatcher matcher = withTokens(pattern);
        String call = what + ": token(" + kind + ", " + value + ")";
        Check.due(call, matcher.token(kind, value), false);
        Check.due(call + ", wipe()", matcher.wipe(), Notation.tokens(pattern).length);
        Twins.unchangedBy(call, twin -> {
            fill(twin, "(a)(b)?", "cab");
            twin.wipe();
            Notation.addTokens(twin, pattern);
            twin.find(0);
        }, twin -> twin.token(kind, value));
        Twins.unchangedBy(call + " behind compile", twin -> {
            Notation.addTokens(twin, pattern);
            twin.compile();
            Notation.addText(twin, "ab");
            twin.find(0);
        }, twin -> twin.token(kind, value));
    }

    private static void tokenOfWrongKind() {
        Check.sentence("2: False, changing nothing, if kind is outside 0..15");
        int[] kinds = {-1, 16, 17, -16, 256, 256 + 7, 65536, LOWEST, LOWEST + 1, HIGHEST};
        for (int kind : kinds) {
            refused("outside", "", kind, 0);
            refused("outside", "(a)|b", kind, 1);
            refused("outside", "a*", kind, HIGHEST);
        }
        for (int kind = 0; kind <= 15; kind++) {
            Check.due("token(" + kind + ", 1)", new LazyTaggedMatcher().token(kind, 1), true);
        }
    }

    private static void tokenOfWrongValue() {
        Check.sentence("2: False, changing nothing, if a value that is looked at is not as said");
        int[][] wrong = {{0, -1}, {0, 4}, {0, LOWEST}, {0, HIGHEST}, {2, 0}, {2, -1}, {2, 16}, {2, LOWEST}, {2, HIGHEST},
            {14, 0}, {14, -1}, {14, 5}, {14, 8}, {14, 17}, {14, 37}, {14, 44}, {14, LOWEST}, {14, LOWEST + 1}, {14, HIGHEST}};
        for (int[] token : wrong) {
            refused("not as said", "", token[0], token[1]);
            refused("not as said", "(a)|b", token[0], token[1]);
        }
    }

    private static void tokenAboveTwentyFour() {
        Check.sentence("2: False, changing nothing, if there are 24 tokens");
        String of24 = "(a|b)*".repeat(3) + "abcdab";
        Check.due("tokens", Notation.tokens(of24).length, 24);
        for (int kind = -1; kind <= 16; kind++) {
            refused("24 tokens", of24, kind, 1);
            refused("24 tokens", SIZE_36 + "(:)(:)(:)", kind, 1);
        }
        LazyTaggedMatcher matcher = withTokens(of24.substring(1));
        Check.due("23 tokens", matcher.token(0, 0), true);
        Check.due("24 tokens", matcher.token(0, 0), false);
        Check.due("wipe()", matcher.wipe(), 24);
        Check.due("room again", matcher.token(0, 0), true);
    }

    private static void wipeOfNoneAndAll() {
        Check.sentence("3: Removes all tokens; answers their number");
        LazyTaggedMatcher matcher = new LazyTaggedMatcher();
        for (int tokens = 0; tokens <= 24; tokens++) {
            for (int i = 0; i < tokens; i++) {
                matcher.token(0, 0);
            }
            Check.due(tokens + " tokens: wipe()", matcher.wipe(), tokens);
        }
        Check.due("none: wipe()", matcher.wipe(), 0);
        Check.due("none: compile()", matcher.compile(), OK);
        Check.due("none: starts()", matcher.starts(), 1);
        Twins.unchangedBy("wipe() of none", twin -> {
            fill(twin, "(a)", "ba");
            twin.find(0);
            twin.wipe();
        }, twin -> twin.wipe());
    }

    private static void wipeKeepsThePattern() {
        Check.sentence("3: The pattern stays");
        LazyTaggedMatcher matcher = Notation.matcher("(b)", "ab");
        Check.due("find(0)", matcher.find(0), true);
        Check.due("wipe()", matcher.wipe(), 3);
        Check.spans("the result after wipe", matcher, 1, 2, 1, 2);
        Check.due("after wipe: starts()", matcher.starts(), 2);
        Check.due("other tokens", matcher.token(0, 0), true);
        Check.due("before compile: starts()", matcher.starts(), 2);
        Check.due("compile()", matcher.compile(), OK);
        Check.due("after compile: starts()", matcher.starts(), 1);
        LazyTaggedMatcher without = withTokens("(");
        Check.due("compile()", without.compile(), SYNTAX);
        Check.due("wipe()", without.wipe(), 1);
        hasNoPattern("no pattern stays none", without);
        Check.due("place stays", without.place(), 1);
    }

    private static void compileOfNoTokens() {
        Check.sentence("4: Makes the tokens the pattern");
        LazyTaggedMatcher matcher = new LazyTaggedMatcher();
        Check.due("no tokens: compile()", matcher.compile(), OK);
        Check.due("no tokens: place()", matcher.place(), -1);
        Check.due("no tokens: whole()", matcher.whole(), true);
        Check.spans("no tokens", matcher, 0, 0);
        matcher.type(1);
        Check.due("no tokens: whole() of b", matcher.whole(), false);
        Check.due("no tokens: starts() of b", matcher.starts(), 3);
        matcher.token(0, 1);
        Check.due("not yet the pattern", matcher.starts(), 3);
        matcher.compile();
        Check.due("the pattern", matcher.starts(), 1);
    }

    private static void firstWrongToken() {
        Check.sentence("4: SYNTAX (place: the first token such that no pattern begins with the tokens up to it and with it)");
        compiles(")", SYNTAX, 0);
        compiles("*", SYNTAX, 0);
        compiles("))", SYNTAX, 0);
        compiles("a)(", SYNTAX, 1);
        compiles("(*a", SYNTAX, 1);
        compiles("(a|*", SYNTAX, 3);
        compiles("(:a)b{1,2}{1,2})", SYNTAX, 5);
        compiles("abcdabcdabcdabcdabcdabc)", SYNTAX, 23);
        compiles("abcdabcdabcdabcdabcdab*+", SYNTAX, 23);
        compiles("*bcdabcdabcdabcdabcdabcd", SYNTAX, 0);
        compiles("(:".repeat(12) + ")".repeat(11) + "*", SYNTAX, 24);
        compiles("(:".repeat(11) + ")".repeat(12) + "*", SYNTAX, 22);
        // Room for what is missing plays no part: these 24 begin patterns of more tokens.
        compiles("(:".repeat(24), SYNTAX, 24);
        compiles("(:".repeat(23) + "|", SYNTAX, 24);
    }

    private static void fourthGroup() {
        Check.sentence("4: a fourth group fits nowhere");
        compiles("((((", SYNTAX, 3);
        compiles("()()()(", SYNTAX, 6);
        compiles("(a)*|(b)*|(c)*|(d)*", SYNTAX, 15);
        compiles("(:(:()()()(:(", SYNTAX, 9);
        compiles("()()())(", SYNTAX, 6);
        compiles("()()()" + "(:)".repeat(9), OK, -1);
        compiles("()()()" + "(:)".repeat(8) + "(", SYNTAX, 22);
        LazyTaggedMatcher matcher = withTokens("()()()()");
        Check.due("four groups: compile()", matcher.compile(), SYNTAX);
        matcher.wipe();
        Notation.addTokens(matcher, "()()()");
        Check.due("three groups after four: compile()", matcher.compile(), OK);
        Check.due("the same three again: compile()", matcher.compile(), OK);
    }

    private static void missingEnd() {
        Check.sentence("4: or their number if the end is missing");
        compiles("(", SYNTAX, 1);
        compiles("(:", SYNTAX, 1);
        compiles("a(b", SYNTAX, 3);
        compiles("(:a|b|", SYNTAX, 5);
        compiles("((:)*", SYNTAX, 4);
        compiles("abcdabcdabcdabcdabcdabc(", SYNTAX, 24);
        compiles("(bcdabcdabcdabcdabcdabcd", SYNTAX, 24);
    }

    private static void syntaxBeforeLarge() {
        Check.sentence("4: SYNTAX, else LARGE");
        compiles(SIZE_37 + ")", SYNTAX, 19);
        compiles(SIZE_37 + "(", SYNTAX, 20);
        compiles("(:" + SIZE_37, SYNTAX, 20);
        compiles(SIZE_37 + "|*", SYNTAX, 20);
        compiles("((()))(" + "a{4,4}".repeat(8), SYNTAX, 6);
    }

    private static void sizeAbove36() {
        Check.sentence("4: LARGE (place: the number of tokens) if its size is above 36. Else OK");
        compiles(SIZE_36, OK, -1);
        compiles(SIZE_37, LARGE, 19);
        compiles(SIZE_36 + "(:)(:)(:)", OK, -1);
        compiles(SIZE_37 + "(:)(:)b", LARGE, 24);
        compiles("(:" + "a{4,4}".repeat(4) + "ab){2,2}", OK, -1);
        compiles("(:" + "a{4,4}".repeat(4) + "ab){1,2}", LARGE, 13);
        compiles("(:" + SIZE_36 + "){1,1}", OK, -1);
        compiles("(:" + SIZE_36 + "){0,1}", LARGE, 21);
        compiles("(:" + SIZE_36 + "){4,4}", LARGE, 21);
        compiles("(:" + SIZE_36 + ")+", LARGE, 21);
        compiles("(:" + "(:".repeat(6) + "a{4,4}" + "){4,4}".repeat(7), LARGE, 23);
        compiles("(" + "a{4,4}".repeat(8) + "ab)", OK, -1);
        compiles("(" + "a{4,4}".repeat(8) + "abc)", LARGE, 21);
        patternOfSize36();
    }

    private static void patternOfSize36() {
        LazyTaggedMatcher forks = Notation.matcher("(:a??){4,4}".repeat(3) + "(:){0,4}(:){0,4}(:){0,4}", "aaaaaaaaaaaa");
        Check.due("size 36: whole()", forks.whole(), true);
        Check.due("size 36: count()", forks.count(), 13);
        LazyTaggedMatcher large = withTokens(SIZE_36);
        Notation.addText(large, "a".repeat(32));
        Check.due("size 36: compile()", large.compile(), OK);
        Check.due("36 characters in 32: find(0)", large.find(0), false);
    }

    private static void noPatternThen() {
        Check.sentence("4: there is no pattern then");
        String[] faults = {"(", "*", "()()()()", SIZE_37};
        for (String fault : faults) {
            LazyTaggedMatcher matcher = Notation.matcher("a*", "aa");
            matcher.wipe();
            Notation.addTokens(matcher, fault);
            Check.due(fault + " not compiled yet: count()", matcher.count(), 2);
            Check.due(fault + ": compile()", matcher.compile(), fault.equals(SIZE_37) ? LARGE : SYNTAX);
            hasNoPattern(fault, matcher);
            matcher.wipe();
            hasNoPattern(fault + " wiped", matcher);
            Notation.addTokens(matcher, "a");
            hasNoPattern(fault + " and a good one, not compiled", matcher);
            Check.due("a good one: compile()", matcher.compile(), OK);
            Check.due("a good one: count()", matcher.count(), 2);
        }
    }

    private static void resultIsForgotten() {
        Check.sentence("4: The result is forgotten in all cases");
        String[] added = {"", "*", "b|c", ")", "(", "(:".repeat(2), SIZE_36};
        int[] answers = {OK, OK, OK, SYNTAX, SYNTAX, SYNTAX, LARGE};
        for (int i = 0; i < added.length; i++) {
            LazyTaggedMatcher matcher = Notation.matcher("(a)", "a");
            Check.due("find(0)", matcher.find(0), true);
            Notation.addTokens(matcher, added[i]);
            Check.spans("before compile", matcher, 0, 1, 0, 1);
            Check.due("(a)" + added[i] + ": compile()", matcher.compile(), answers[i]);
            Check.spans("(a)" + added[i], matcher);
        }
    }

    private static void tokensStay() {
        Check.sentence("4: the tokens stay");
        String[] patterns = {"", "a*", "a*)", "(a", SIZE_37};
        int[] answers = {OK, OK, SYNTAX, SYNTAX, LARGE};
        for (int i = 0; i < patterns.length; i++) {
            LazyTaggedMatcher matcher = withTokens(patterns[i]);
            for (int round = 0; round < 3; round++) {
                Check.due(patterns[i] + ": compile() of round " + round, matcher.compile(), answers[i]);
            }
            Check.due(patterns[i] + ": wipe()", matcher.wipe(), Notation.tokens(patterns[i]).length);
        }
        LazyTaggedMatcher gone = withTokens("(a");
        Check.due("(a: compile()", gone.compile(), SYNTAX);
        Notation.addTokens(gone, ")");
        Check.due("(a and ): compile()", gone.compile(), OK);
    }

    private static void placeBeforeAnyCompile() {
        Check.sentence("5: -1 if there was none");
        LazyTaggedMatcher matcher = new LazyTaggedMatcher();
        Check.due("new: place()", matcher.place(), -1);
        Notation.addTokens(matcher, ")");
        Check.due("a wrong token: place()", matcher.place(), -1);
        matcher.find(0);
        matcher.whole();
        matcher.wipe();
        Check.due("no compile yet: place()", matcher.place(), -1);
    }

    private static void placeOfTheLatestCompile() {
        Check.sentence("5: The place of the latest compile; -1 if that answered OK");
        LazyTaggedMatcher matcher = withTokens("ab*(");
        Check.due("compile()", matcher.compile(), SYNTAX);
        Check.due("SYNTAX: place()", matcher.place(), 4);
        Check.due("asked again: place()", matcher.place(), 4);
        Notation.addTokens(matcher, "|");
        Check.due("a token more: place()", matcher.place(), 4);
        Check.due("compile()", matcher.compile(), SYNTAX);
        Check.due("SYNTAX again: place()", matcher.place(), 5);
        matcher.type(0);
        matcher.find(0);
        matcher.count();
        matcher.starts();
        matcher.whole();
        matcher.cut(1);
        Check.due("other calls: place()", matcher.place(), 5);
        matcher.wipe();
        Check.due("wiped: place()", matcher.place(), 5);
        Check.due("compile()", matcher.compile(), OK);
        Check.due("OK after SYNTAX: place()", matcher.place(), -1);
        Notation.addTokens(matcher, SIZE_37);
        Check.due("compile()", matcher.compile(), LARGE);
        Check.due("LARGE: place()", matcher.place(), 19);
        Check.due("wipe()", matcher.wipe(), 19);
        Notation.addTokens(matcher, "*");
        Check.due("compile()", matcher.compile(), SYNTAX);
        Check.due("SYNTAX after LARGE: place()", matcher.place(), 0);
        Check.due("wipe()", matcher.wipe(), 1);
        Check.due("compile()", matcher.compile(), OK);
        Check.due("OK at last: place()", matcher.place(), -1);
        Twins.unchangedBy("place()", twin -> {
            fill(twin, "(a)", "ba");
            twin.find(0);
        }, twin -> twin.place());
    }
}
