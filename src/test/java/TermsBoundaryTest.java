/** The boundary cases of "Terms": a method for each sentence that names one. */
public final class TermsBoundaryTest {
    private static final int OK = LazyTaggedMatcher.OK;
    private static final int SYNTAX = LazyTaggedMatcher.SYNTAX;
    private static final int LARGE = LazyTaggedMatcher.LARGE;
    private static final String FULL = "abcdabcdabcdabcdabcdabcdabcdabcd";
    private static final String[] QUANTIFIERS = {"*", "+", "?", "*?", "+?", "??", "{0,1}", "{4,4}"};

    public static void main(String[] args) {
        valuesNotLookedAt();
        characterValues();
        setValues();
        countValues();
        emptyAlternatives();
        oneQuantifierAtMost();
        quantifierKinds();
        atomKinds();
        bracketsOfBothKinds();
        threeGroups();
        groupZero();
        plusPieces();
        countPieces();
        sameGroupsInCopies();
        sizes();
        placesOfMatching();
        sameWayComesTwice();
        earlierWayCameThere();
        longestSearches();
        eachSearchBeginsAnew();
        charactersAtTheEnd();
        anchorsAtTheEnds();
        emptyBranches();
        options();
        stars();
        notesAtTheEnds();
        latestNoteCounts();
        endOfPattern();
        Check.finish();
    }

    private static void compiles(String pattern, int answer, int place) {
        LazyTaggedMatcher matcher = new LazyTaggedMatcher();
        Notation.addTokens(matcher, pattern);
        Check.due(pattern + ": compile()", matcher.compile(), answer);
        Check.due(pattern + ": place()", matcher.place(), place);
    }

    private static void finds(String pattern, String text, int... beginsAndEnds) {
        LazyTaggedMatcher matcher = Notation.matcher(pattern, text);
        String what = pattern + " on " + text;
        Check.due(what + ": find(0)", matcher.find(0), beginsAndEnds.length > 0);
        Check.spans(what, matcher, beginsAndEnds);
    }

    private static void matchesWhole(String pattern, String text, int... beginsAndEnds) {
        LazyTaggedMatcher matcher = Notation.matcher(pattern, text);
        String what = pattern + " on whole " + text;
        Check.due(what + ": whole()", matcher.whole(), beginsAndEnds.length > 0);
        Check.spans(what, matcher, beginsAndEnds);
    }

    private static boolean takes(int kind, int value) {
        return new LazyTaggedMatcher().token(kind, value);
    }

    private static void valuesNotLookedAt() {
        Check.sentence("TOKENS kind and value (looked at for 0, 2, 14 alone)");
        String[] patterns = {".", "(a)", "(:a)b", "a|b", "a*", "a+", "a?", "a*?b", "a+?", "a??b", "^a", "a$", "(:^(.)+|$)??(b|)*"};
        int[] values = {-1, 1, 4, 5, 16, 37, 256, Integer.MIN_VALUE, Integer.MAX_VALUE};
        for (String pattern : patterns) {
            for (int value : values) {
                int[][] other = Notation.tokens(pattern);
                for (int[] token : other) {
                    token[1] = token[0] == 0 || token[0] == 2 || token[0] == 14 ? token[1] : value;
                }
                Twins.samePatterns(pattern + " with values " + value, other, Notation.tokens(pattern));
            }
        }
    }

    private static void characterValues() {
        Check.sentence("0 CHAR (0..3)");
        int[] wrong = {-1, 4, 256, 65536, Integer.MIN_VALUE, Integer.MIN_VALUE + 3, Integer.MAX_VALUE, Integer.MAX_VALUE - 3};
        for (int value : wrong) {
            Check.due("token(0, " + value + ")", takes(0, value), false);
        }
        Check.due("token(0, 0)", takes(0, 0), true);
        Check.due("token(0, 3)", takes(0, 3), true);
        Check.due("0: starts()", Notation.matcher("a", "abcd").starts(), 1);
        Check.due("3: starts()", Notation.matcher("d", "abcd").starts(), 8);
    }

    private static void setValues() {
        Check.sentence("2 SET (1..15: the characters c with bit c set)");
        int[] wrong = {-1, 0, 16, 17, 257, 65537, Integer.MIN_VALUE, Integer.MIN_VALUE + 1, Integer.MAX_VALUE};
        for (int value : wrong) {
            Check.due("token(2, " + value + ")", takes(2, value), false);
        }
        Check.due("token(2, 1)", takes(2, 1), true);
        Check.due("token(2, 15)", takes(2, 15), true);
        Check.due("1: starts()", Notation.matcher("[a]", "abcd").starts(), 1);
        Check.due("8: starts()", Notation.matcher("[d]", "abcd").starts(), 8);
        Check.due("14: starts()", Notation.matcher("[bcd]", "abcd").starts(), 14);
        Check.due("15: starts()", Notation.matcher("[abcd]", "abcd").starts(), 15);
    }

    private static void countValues() {
        Check.sentence("14 COUNT (8 * m + n with 0 <= m <= n <= 4, n at least 1)");
        Check.due("0 and 0", takes(14, 0), false);
        for (int m = -3; m <= 9; m++) {
            for (int n = 0; n <= 7; n++) {
                boolean good = 0 <= m && m <= n && n <= 4 && n >= 1;
                Check.due("token(14, 8 * " + m + " + " + n + ")", takes(14, 8 * m + n), good);
            }
        }
        int[] wrong = {Integer.MIN_VALUE, Integer.MIN_VALUE + 1, Integer.MIN_VALUE + 9, Integer.MAX_VALUE, Integer.MAX_VALUE - 3,
            256 + 1, 65536 + 9, (1 << 30) + 4};
        for (int value : wrong) {
            Check.due("token(14, " + value + ")", takes(14, value), false);
        }
    }

    private static void emptyAlternatives() {
        Check.sentence("GRAMMAR: seq = { rep } (any number of times), alt = seq { \"|\" seq }");
        String[] patterns = {"", "|", "||", "(:)", "(:|)", "(:||)(:)", "|(:)", "(:)|", "(:(:(:)))", "(:|(:|))"};
        for (String pattern : patterns) {
            compiles(pattern, OK, -1);
            finds(pattern, "ab", 0, 0);
            matchesWhole(pattern, "", 0, 0);
            matchesWhole(pattern, "a");
        }
        finds("()", "ab", 0, 0, 0, 0);
        finds("(|)", "ab", 0, 0, 0, 0);
        compiles("||||||||||||||||||||||||", OK, -1);
        compiles("abcdabcdabcdabcdabcdabcd", OK, -1);
    }

    private static void oneQuantifierAtMost() {
        Check.sentence("GRAMMAR: rep = atom [ quantifier ] (once or not)");
        for (String first : QUANTIFIERS) {
            compiles("a" + first, OK, -1);
            compiles("(:a" + first + ")" + first, OK, -1);
            for (String second : QUANTIFIERS) {
                LazyTaggedMatcher matcher = new LazyTaggedMatcher();
                Notation.addTokens(matcher, "a" + first);
                Notation.addTokens(matcher, second);
                Check.due("a" + first + " " + second + ": compile()", matcher.compile(), SYNTAX);
                Check.due("a" + first + " " + second + ": place()", matcher.place(), 2);
            }
        }
    }

    private static void quantifierKinds() {
        Check.sentence("GRAMMAR: quantifier = one of 7 to 12 and 14");
        for (int kind = 0; kind <= 15; kind++) {
            LazyTaggedMatcher matcher = new LazyTaggedMatcher();
            Check.due("token(" + kind + ", 1)", matcher.token(kind, 1), true);
            boolean quantifier = kind >= 7 && kind <= 12 || kind == 14;
            boolean begins = !quantifier && kind != 5;
            boolean ends = begins && kind != 3 && kind != 4;
            Check.due("kind " + kind + " alone: compile()", matcher.compile(), ends ? OK : SYNTAX);
            Check.due("kind " + kind + " alone: place()", matcher.place(), ends ? -1 : begins ? 1 : 0);
        }
        for (String quantifier : QUANTIFIERS) {
            compiles("|" + quantifier, SYNTAX, 1);
            compiles("(" + quantifier, SYNTAX, 1);
            compiles("(:" + quantifier, SYNTAX, 1);
        }
    }

    private static void atomKinds() {
        Check.sentence("GRAMMAR: atom = CHAR | ANY | SET | \"^\" | \"$\" | (\"(\" of kind 3 or 4) alt \")\"");
        String[] atoms = {"a", ".", "[bc]", "^", "$", "()", "(:)", "(|)", "(:a|b)"};
        for (String atom : atoms) {
            compiles(atom, OK, -1);
            for (String quantifier : QUANTIFIERS) {
                compiles(atom + quantifier, OK, -1);
            }
        }
    }

    private static void bracketsOfBothKinds() {
        Check.sentence("GRAMMAR: (\"(\" of kind 3 or 4) alt \")\"");
        compiles("(", SYNTAX, 1);
        compiles("(:", SYNTAX, 1);
        compiles(")", SYNTAX, 0);
        compiles("())", SYNTAX, 2);
        compiles("(:))", SYNTAX, 2);
        compiles("((:)", SYNTAX, 3);
        compiles("(:()", SYNTAX, 3);
        compiles("(:(:(:(:(:(:(:(:(:(:(:(:))))))))))))", OK, -1);
    }

    private static void threeGroups() {
        Check.sentence("GROUPS are numbered 1, 2, 3 in the order of their opening brackets (three at most)");
        finds("((a)(b))", "ab", 0, 2, 0, 2, 0, 1, 1, 2);
        finds("(((a)))b", "ab", 0, 2, 0, 1, 0, 1, 0, 1);
        finds("(:(:a)(b))(:(c))(d)", "abcd", 0, 4, 1, 2, 2, 3, 3, 4);
        finds("(a)|(b)|(c)", "c", 0, 1, -1, -1, -1, -1, 0, 1);
        compiles("()()()", OK, -1);
        compiles("()()()(:)", OK, -1);
        compiles("()()()()", SYNTAX, 6);
        compiles("(((())))", SYNTAX, 3);
        compiles("()|()|()|()", SYNTAX, 9);
        // Copies are no further groups.
        compiles("(a){4,4}(b)(c)", OK, -1);
        compiles("(a)+(b)+(c)+(:d)", OK, -1);
    }

    private static void groupZero() {
        Check.sentence("group 0 is the whole");
        finds("a()b", "cab", 1, 3, 2, 2);
        finds("", "", 0, 0);
        matchesWhole(".*", FULL, 0, 32);
    }

    private static void plusPieces() {
        Check.sentence("PIECES: x+ stands for x x*, x+? for x x*?");
        String[] atoms = {"a", ".", "[ab]", "^", "$", "(:)", "(:a|)", "(:|a)", "(:a*)", "(:a*?)", "(:a??b)", "(:ab|a)", "(:^|a)", "(:b|$)"};
        String[] others = {"", "b", "$", "(.?)"};
        for (String atom : atoms) {
            for (String other : others) {
                Twins.samePatterns(atom + "+" + other, Notation.tokens(atom + "+" + other), Notation.tokens(atom + atom + "*" + other));
                Twins.samePatterns(atom + "+?" + other, Notation.tokens(atom + "+?" + other), Notation.tokens(atom + atom + "*?" + other));
            }
        }
    }

    private static void countPieces() {
        Check.sentence("PIECES: x COUNT for m times x, one after the other, and behind them n - m times one inside the other (greedy options)");
        String[] atoms = {"a", ".", "[ab]", "^", "$", "(:)", "(:a|)", "(:|a)", "(:a*?)", "(:a??)"};
        for (String atom : atoms) {
            for (int n = 1; n <= 4; n++) {
                for (int m = 0; m <= n; m++) {
                    String spelled = atom.repeat(m) + ("(:" + atom).repeat(n - m) + ")?".repeat(n - m);
                    spelledOut(atom + "{" + m + "," + n + "}", spelled);
                }
            }
        }
        finds("a{1,1}", "aa", 0, 1);
        finds("a{0,1}", "aa", 0, 1);
        finds("a{0,1}", "b", 0, 0);
        finds("a{0,4}", "aaaaa", 0, 4);
        finds("a{4,4}", "aaaaa", 0, 4);
        finds("a{4,4}", "aaa");
    }

    private static void spelledOut(String counted, String spelled) {
        String[] others = {"", "b", "(.*?)$"};
        for (String other : others) {
            if (Notation.tokens(spelled + other).length <= 24) {
                Twins.samePatterns(counted + other, Notation.tokens(counted + other), Notation.tokens(spelled + other));
            }
        }
    }

    private static void sameGroupsInCopies() {
        Check.sentence("PIECES: so x occurs there several times, each time as pieces of its own (with the same groups)");
        finds("(a){4,4}", "aaaa", 0, 4, 3, 4);
        finds("(a){1,4}b", "aab", 0, 3, 1, 2);
        finds("(a)+", "aaa", 0, 3, 2, 3);
        finds("(a)+?$", "aaa", 0, 3, 2, 3);
        finds("(){4,4}", "", 0, 0, 0, 0);
        finds("(a?){4,4}", "aa", 0, 2, 2, 2);
        finds("(|a){4,4}b", "aaaab", 0, 5, 3, 4);
        finds("(:(a)|(b)){4,4}", "abab", 0, 4, 2, 3, 3, 4);
    }

    /** A pattern of this size and of at most 20 tokens. */
    private static String ofSize(int size) {
        int rest = size % 4;
        return "a{4,4}".repeat(size / 4) + (rest == 0 ? "" : "a{" + rest + "," + rest + "}");
    }

    private static void hasSize(String part, int size) {
        String fitting = ofSize(36 - size) + part;
        String above = ofSize(37 - size) + part;
        compiles(fitting, OK, -1);
        compiles(above, LARGE, Notation.tokens(above).length);
    }

    private static void sizes() {
        Check.sentence("The SIZE counts 1 for each CHAR, ANY, SET, ^, $");
        for (String part : new String[] {"a", ".", "[abcd]", "^", "$"}) {
            hasSize(part, 1);
        }
        Check.sentence("The SIZE counts 1 for each star (* or *?)");
        for (String part : new String[] {"(:)*", "(:)*?"}) {
            hasSize(part, 1);
        }
        Check.sentence("The SIZE counts 1 for each option (? or ??)");
        for (String part : new String[] {"(:)?", "(:)??"}) {
            hasSize(part, 1);
        }
        Check.sentence("The SIZE counts 1 for each |");
        hasSize("|", 1);
        hasSize("||", 2);
        hasSize("(:|)", 1);
        hasSize("b|c|d", 5);
        Check.sentence("The SIZE counts 2 for each GROUP");
        hasSize("()", 2);
        hasSize("()()", 4);
        hasSize("((()))", 6);
        hasSize("(:)", 0);
        hasSize("", 0);
        sizesOfPieces();
    }

    private static void sizesOfPieces() {
        Check.sentence("The SIZE of a pattern counts, after that (after x+ and COUNT have become their pieces)");
        hasSize("a*", 2);
        hasSize("a+", 3);
        hasSize("a+?", 3);
        hasSize("(:)+", 1);
        hasSize("()+", 5);
        hasSize("(:a+)+", 7);
        hasSize("a{1,1}", 1);
        hasSize("(:){4,4}", 0);
        hasSize("(:){0,4}", 4);
        for (int n = 1; n <= 4; n++) {
            for (int m = 0; m <= n; m++) {
                hasSize("a{" + m + "," + n + "}", n + n - m);
                hasSize("(){" + m + "," + n + "}", 2 * n + n - m);
            }
        }
        compiles("(:a{4,4}){4,4}", OK, -1);
        compiles("(:(:a{3,3}){3,3}){4,4}", OK, -1);
        compiles("(:(:a{3,3}){3,3}){3,4}", LARGE, 8);
        compiles("(:".repeat(7) + "a{4,4}" + "){4,4}".repeat(7), LARGE, 23);
        compiles("(:".repeat(8) + "a" + "){4,4}".repeat(7), SYNTAX, 23);
    }

    private static void placesOfMatching() {
        Check.sentence("MATCHING from a place s of the text (0..length)");
        LazyTaggedMatcher empty = Notation.matcher("", "");
        Check.due("empty text: find(0)", empty.find(0), true);
        Check.due("empty text: find(1)", empty.find(1), false);
        LazyTaggedMatcher full = Notation.matcher("(a*)", FULL);
        Check.due("32: find(0)", full.find(0), true);
        Check.spans("32: find(0)", full, 0, 1, 0, 1);
        Check.due("32: find(31)", full.find(31), true);
        Check.spans("32: find(31)", full, 31, 31, 31, 31);
        Check.due("32: find(32)", full.find(32), true);
        Check.spans("32: find(32)", full, 32, 32, 32, 32);
        Check.due("32: find(33)", full.find(33), false);
    }

    private static void sameWayComesTwice() {
        Check.sentence("Whenever a way comes to a piece at a place at which it came to that very piece before, it fails");
        finds("(:)*", "a", 0, 0);
        finds("(:)*?b", "ab", 1, 2);
        finds("()*", "", 0, 0);
        finds("()+", "", 0, 0, 0, 0);
        finds("(a*)*", "aa", 0, 2, 0, 2);
        finds("(a*)*", "", 0, 0);
        finds("(|a)*", "aa", 0, 2, 1, 2);
        finds("(:(:(:a*)*)*)*b", "aab", 0, 3);
        finds("(^|$)*", "a", 0, 0);
        // The outer star comes to the inner piece at place 1, where the way was before.
        finds("(a*?)*?b", "aab", 0, 3, 0, 2);
        finds("(b?a*?)*$", "ba", 0, 2, 0, 2);
        finds("(b?a??)*$", "ba", 0, 2, 0, 2);
        finds("(b?(:|a))*$", "ba", 0, 2, 0, 2);
        finds("(b?(|a))*$", "ba", 0, 2, 0, 2, 1, 2);
    }

    private static void earlierWayCameThere() {
        Check.sentence("Whenever a way comes to a piece at a place at which an earlier way of this search came to that very piece before, it fails");
        String all = "a".repeat(32);
        finds("(:a*)*b", all);
        finds("(:a|a|a|a)*b", all);
        finds("(:(:a*)*(:a*?)*?)*b", all);
        finds("(:a?){4,4}(:a?){4,4}(:a?){4,4}b", all);
        finds("(:|a|(a))b", "ab", 0, 2);
        finds("(:a|(a))(:c|b)", "ab", 0, 2);
        // Without that rule the ways before the last are too many to be tried.
        finds("(:a|a|a)*b|(a)", all, 0, 1, 0, 1);
        finds("(:a*)*b|(:a*?)*?c|a", all, 0, 1);
        matchesWhole("(:(:a|a)*b|a)*", all, 0, 32);
    }

    // As many pieces come to as there can be, at as many places, with as many ways left to try.
    private static void longestSearches() {
        Check.sentence("tries ways in the order said below, one after the other until one succeeds");
        String all = "a".repeat(32);
        String options16 = "(:(:){0,4}){4,4}";
        finds("(:" + options16 + options16 + "(:){0,2}a)*", all, 0, 32);
        finds("(:" + options16 + options16 + "(:){0,2}a)*?", all, 0, 0);
        matchesWhole("(:" + options16 + options16 + "(:){0,2}a)*?", all, 0, 32);
        finds("(:a|" + "(:){0,4}".repeat(5) + ")*b|a", all, 0, 1);
        finds("(:a|" + options16 + "(:){0,4}" + ")*b|(a)", all, 0, 1, 0, 1);
        finds("(:" + options16 + "(:){0,4}" + "|a)*b|(a)", all, 0, 1, 0, 1);
    }

    private static void eachSearchBeginsAnew() {
        Check.sentence("an earlier way of this search (each place s has a search of its own)");
        LazyTaggedMatcher matcher = Notation.matcher(".*b", "aab");
        for (int round = 0; round < 3; round++) {
            Check.due("round " + round + ": find(0)", matcher.find(0), true);
            Check.due("round " + round + ": find(2)", matcher.find(2), true);
            Check.due("round " + round + ": find(3)", matcher.find(3), false);
            Check.due("round " + round + ": whole()", matcher.whole(), true);
            Check.due("round " + round + ": starts()", matcher.starts(), 7);
        }
        // Place 1 was come to by the search from place 0 that failed.
        finds("(:ab|b)$|bc", "abc", 1, 3);
    }

    private static void charactersAtTheEnd() {
        Check.sentence("CHAR, ANY, SET: if the text's character at the place fits the way goes on behind it, else it fails");
        for (String one : new String[] {"a", ".", "[abcd]"}) {
            finds(one, "");
            finds("^a" + one, "a");
            finds("^a" + one, "aa", 0, 2);
            LazyTaggedMatcher matcher = Notation.matcher(one, "aa");
            Check.due(one + ": find(2)", matcher.find(2), false);
            // A character that was cut away is none of the text any more.
            matcher.cut(1);
            Check.due(one + " after cut: find(1)", matcher.find(1), false);
            matcher.cut(1);
            Check.due(one + " after cut: find(0)", matcher.find(0), false);
        }
        finds(".{4,4}", "abcd", 0, 4);
        finds("[ab][ab]c", "bac", 0, 3);
        finds("[ab]", "cd");
    }

    private static void anchorsAtTheEnds() {
        Check.sentence("^ goes on at place 0 alone, $ at the text's end alone");
        finds("^$", "", 0, 0);
        finds("^$", "a");
        finds("^", "a", 0, 0);
        finds("$", "a", 1, 1);
        finds("a^", "a");
        finds("$a", "a");
        finds("^^a$$", "a", 0, 1);
        Check.due("^: starts()", Notation.matcher("^", FULL).starts(), 1);
        Check.due("$: starts()", Notation.matcher("$", FULL).starts(), 0);
        Check.due("^: find(1)", Notation.matcher("^", "ab").find(1), false);
        finds("$", FULL, 32, 32);
        LazyTaggedMatcher matcher = Notation.matcher("b$", "abb");
        Check.due("abb: starts()", matcher.starts(), 4);
        matcher.cut(1);
        Check.due("ab: starts()", matcher.starts(), 2);
        matcher.cut(1);
        Check.due("a: starts()", matcher.starts(), 0);
    }

    private static void emptyBranches() {
        Check.sentence("a | b: first a, then b (of several, from left to right)");
        finds("|a", "a", 0, 0);
        finds("a|", "a", 0, 1);
        finds("b||a", "a", 0, 0);
        finds("b|a|", "a", 0, 1);
        finds("(:|a)b", "ab", 0, 2);
        finds("d|c|b|ab|a", "ab", 0, 2);
        finds("d|c|b|a|ab", "ab", 0, 1);
        finds("a|b|c|d|()||||||||||||", "", 0, 0, 0, 0);
    }

    private static void options() {
        Check.sentence("x?: first x, then without it. x??: first without, then x");
        finds("a?", "", 0, 0);
        finds("a??", "", 0, 0);
        finds("a?", "aa", 0, 1);
        finds("a??", "aa", 0, 0);
        finds("(a)?a", "a", 0, 1);
        finds("(a)??$", "a", 0, 1, 0, 1);
        finds("()?", "", 0, 0, 0, 0);
        finds("()??", "", 0, 0);
    }

    private static void stars() {
        Check.sentence("x*: first x, and from its end this star again; then on behind the star. x*?: the other order");
        finds("a*", "", 0, 0);
        finds("a*?", "", 0, 0);
        finds(".*", FULL, 0, 32);
        finds(".*?", FULL, 0, 0);
        finds(".*?$", FULL, 0, 32);
        finds("(.*)d$", FULL, 0, 32, 0, 31);
        finds("(.*).{4,4}$", FULL, 0, 32, 0, 28);
        finds("(.*?)(.*)", FULL, 0, 32, 0, 0, 0, 32);
        matchesWhole("(.*?)d", FULL, 0, 32, 0, 31);
    }

    private static void notesAtTheEnds() {
        Check.sentence("the beginning and the end of a GROUP note the place");
        finds("()()()", "", 0, 0, 0, 0, 0, 0, 0, 0);
        finds("(.*)(.*)(.*)", FULL, 0, 32, 0, 32, 32, 32, 32, 32);
        finds("(((.*)))", FULL, 0, 32, 0, 32, 0, 32, 0, 32);
        finds("(.*?)(.*?)(.*?)$", FULL, 0, 32, 0, 0, 0, 0, 0, 32);
        LazyTaggedMatcher matcher = Notation.matcher("()()()", FULL);
        for (int place = 0; place <= 32; place++) {
            Check.due("find(" + place + ")", matcher.find(place), true);
            Check.spans("find(" + place + ")", matcher, place, place, place, place, place, place, place, place);
        }
    }

    private static void latestNoteCounts() {
        Check.sentence("note the place, in place of what was noted on this way before");
        finds("(.)*", FULL, 0, 32, 31, 32);
        finds("(:(a)|(b)|.)*", FULL, 0, 32, 28, 29, 29, 30);
        // What another way noted is not noted.
        finds("(a)c|(:a)(b)", "ab", 0, 2, -1, -1, 1, 2);
        finds("(:(a)(b)c)?a(.)", "abd", 0, 2, -1, -1, -1, -1, 1, 2);
        finds("(a)*ab", "aab", 0, 3, 0, 1);
        finds("(a)*?aab", "aab", 0, 3);
    }

    private static void endOfPattern() {
        Check.sentence("at the end of the pattern the way succeeds; in a WHOLE match only at the text's end, elsewhere it fails");
        finds("", "a", 0, 0);
        matchesWhole("", "a");
        matchesWhole("", "", 0, 0);
        finds("a|ab", "ab", 0, 1);
        matchesWhole("a|ab", "ab", 0, 2);
        matchesWhole("a|ab", "abb");
        matchesWhole("a??", "a", 0, 1);
        matchesWhole("|||a", "a", 0, 1);
        matchesWhole(".", FULL);
        matchesWhole("(:.{4,4}){4,4}(:.{4,4}){4,4}", FULL, 0, 32);
        matchesWhole("(:.{4,4}){4,4}(:.{4,4}){3,3}.{3,3}", FULL);
    }
}
