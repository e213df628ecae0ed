import java.util.function.Consumer;

/** The boundary cases of promises 8 to 12: a method for each sentence that names one. */
public final class MatchBoundaryTest {
    private static final int LOWEST = Integer.MIN_VALUE;
    private static final int HIGHEST = Integer.MAX_VALUE;
    private static final String FULL = "abcdabcdabcdabcdabcdabcdabcdabcd";

    private static final String[] FAULTS = {"(", "*", "()()()()", "a{4,4}".repeat(9) + "a"};

    public static void main(String[] args) {
        findTheLeastPlace();
        findNone();
        findWithoutPattern();
        findFromOutside();
        wholeFromPlaceZero();
        wholeFails();
        groupsOutside();
        groupBeginsAndEnds();
        groupWithoutResult();
        noSuchGroup();
        groupNotNoted();
        countOneBehindTheOther();
        countOfEmptyMatches();
        countEndsBeyondTheLength();
        countForgets();
        countWithoutPattern();
        startsOfEachPlace();
        startsUpToTheLength();
        startsForget();
        startsWithoutPattern();
        Check.finish();
    }

    /** A matcher that had a pattern and a result, and lost both to a compile that did not answer OK. */
    private static LazyTaggedMatcher withoutPattern(String fault) {
        LazyTaggedMatcher matcher = Notation.matcher("(a)*", "aa");
        Check.due("find(0)", matcher.find(0), true);
        matcher.wipe();
        Notation.addTokens(matcher, fault);
        Check.due(fault + ": compile()", matcher.compile() == LazyTaggedMatcher.OK, false);
        return matcher;
    }

    /** The call is due to forget the result, and to leave the place, the pattern, the tokens and the text alone. */
    private static void changesTheResultAlone(String what, String pattern, String text, Consumer<LazyTaggedMatcher> call) {
        Twins.unchangedBy(what, twin -> {
            Notation.compile(twin, pattern);
            Notation.addText(twin, text);
            twin.wipe();
            Notation.addTokens(twin, "(b|c");
        }, twin -> {
            call.accept(twin);
            Check.spans(what + " is forgotten", twin);
        });
    }

    private static void findTheLeastPlace() {
        Check.sentence("8: Looks for the least place s from from on at which matching succeeds: true, and that is the result");
        LazyTaggedMatcher matcher = Notation.matcher("(d)", FULL);
        for (int from = 0; from <= 31; from++) {
            Check.due("find(" + from + ")", matcher.find(from), true);
            int s = from + 3 - from % 4;
            Check.spans("find(" + from + ")", matcher, s, s + 1, s, s + 1);
        }
        Check.due("find(32)", matcher.find(32), false);
        LazyTaggedMatcher atEnd = Notation.matcher("d?$", FULL);
        Check.due("find(0)", atEnd.find(0), true);
        Check.spans("find(0)", atEnd, 31, 32);
        Check.due("find(32)", atEnd.find(32), true);
        Check.spans("find(32)", atEnd, 32, 32);
        LazyTaggedMatcher empty = Notation.matcher("()", "");
        Check.due("empty text: find(0)", empty.find(0), true);
        Check.spans("empty text: find(0)", empty, 0, 0, 0, 0);
        // A later, longer match is not the least.
        LazyTaggedMatcher longer = Notation.matcher("b*", "abb");
        Check.due("find(0)", longer.find(0), true);
        Check.spans("find(0)", longer, 0, 0);
    }

    private static void findNone() {
        Check.sentence("8: False if there is none; then the result is forgotten");
        LazyTaggedMatcher matcher = Notation.matcher("(a)b", "abb");
        for (int from = 1; from <= 3; from++) {
            Check.due("find(0)", matcher.find(0), true);
            Check.spans("find(0)", matcher, 0, 2, 0, 1);
            Check.due("find(" + from + ")", matcher.find(from), false);
            Check.spans("find(" + from + ")", matcher);
        }
        Check.due("empty text: find(0)", Notation.matcher("a", "").find(0), false);
        changesTheResultAlone("find(0) of none", "(a)", "bb", twin -> Check.due("none", twin.find(0), false));
    }

    private static void findWithoutPattern() {
        Check.sentence("8: False if there is no pattern; then the result is forgotten");
        int[] places = {LOWEST, -1, 0, 1, 2, 3, HIGHEST};
        for (int from : places) {
            Check.due("new: find(" + from + ")", new LazyTaggedMatcher().find(from), false);
            for (String fault : FAULTS) {
                LazyTaggedMatcher matcher = withoutPattern(fault);
                Check.due(fault + ": find(" + from + ")", matcher.find(from), false);
                Check.spans(fault + ": find(" + from + ")", matcher);
            }
        }
    }

    private static void findFromOutside() {
        Check.sentence("8: False if from is outside 0..length; then the result is forgotten");
        for (String text : new String[] {"", "a", "ab", FULL}) {
            int length = text.length();
            int[] outside = {-1, -2, -length, LOWEST, LOWEST + 1, length + 1, length + 2, length + 64, 256 + length, 65536, HIGHEST};
            for (int from : outside) {
                LazyTaggedMatcher matcher = Notation.matcher("()", text);
                Check.due(text + ": find(length)", matcher.find(length), true);
                Check.spans(text + ": find(length)", matcher, length, length, length, length);
                boolean inside = from >= 0 && from <= length;
                Check.due(text + ": find(" + from + ")", matcher.find(from), inside);
                if (!inside) {
                    Check.spans(text + ": find(" + from + ")", matcher);
                    changesTheResultAlone(text + ": find(" + from + ")", "(a)|", text, twin -> twin.find(from));
                }
            }
        }
        LazyTaggedMatcher shorter = Notation.matcher("", "abc");
        Check.due("abc: find(3)", shorter.find(3), true);
        shorter.cut(1);
        Check.due("ab: find(3)", shorter.find(3), false);
        Check.due("ab: find(2)", shorter.find(2), true);
    }

    private static void wholeFromPlaceZero() {
        Check.sentence("9: Whether a WHOLE match succeeds from place 0: true, and that is the result");
        LazyTaggedMatcher empty = Notation.matcher("()", "");
        Check.due("empty text: whole()", empty.whole(), true);
        Check.spans("empty text", empty, 0, 0, 0, 0);
        LazyTaggedMatcher full = Notation.matcher("(.)(.*)", FULL);
        Check.due("32: find(5)", full.find(5), true);
        Check.due("32: whole()", full.whole(), true);
        Check.spans("32", full, 0, 32, 0, 1, 1, 32);
        Check.due("b on ab", Notation.matcher("b", "ab").whole(), false);
        Check.due("a on ab", Notation.matcher("a", "ab").whole(), false);
        LazyTaggedMatcher lazy = Notation.matcher("(a??)(a*?)", "aa");
        Check.due("lazy: whole()", lazy.whole(), true);
        Check.spans("lazy", lazy, 0, 2, 0, 0, 0, 2);
    }

    private static void wholeFails() {
        Check.sentence("9: else false, and the result is forgotten");
        LazyTaggedMatcher matcher = Notation.matcher("(a)", "a");
        Check.due("a: whole()", matcher.whole(), true);
        Check.spans("a", matcher, 0, 1, 0, 1);
        matcher.type(0);
        Check.spans("not asked again yet", matcher, 0, 1, 0, 1);
        Check.due("aa: whole()", matcher.whole(), false);
        Check.spans("aa", matcher);
        matcher.cut(2);
        Check.due("empty text: whole()", matcher.whole(), false);
        Check.due("new: whole()", new LazyTaggedMatcher().whole(), false);
        for (String fault : FAULTS) {
            LazyTaggedMatcher without = withoutPattern(fault);
            Check.due(fault + ": whole()", without.whole(), false);
            Check.spans(fault, without);
        }
        changesTheResultAlone("whole()", "(a)", "ab", twin -> Check.due("a on ab", twin.whole(), false));
    }

    private static LazyTaggedMatcher allNoted() {
        LazyTaggedMatcher matcher = Notation.matcher("(a)(b)(c)", "dabcd");
        Check.due("find(0)", matcher.find(0), true);
        return matcher;
    }

    private static void groupsOutside() {
        Check.sentence("10: group g (0..3)");
        LazyTaggedMatcher matcher = allNoted();
        int[] outside = {-1, -2, -3, -4, 4, 5, 6, 7, 8, 32, 64, 128, 256, 257, 65536, 65537, LOWEST, LOWEST + 1, HIGHEST, HIGHEST - 2};
        for (int g : outside) {
            Check.due("group(" + g + ", false)", matcher.group(g, false), -1);
            Check.due("group(" + g + ", true)", matcher.group(g, true), -1);
        }
        Check.spans("after wrong groups", matcher, 1, 4, 1, 2, 2, 3, 3, 4);
    }

    private static void groupBeginsAndEnds() {
        Check.sentence("10: Where group g of the result begins (end: where it ends)");
        LazyTaggedMatcher matcher = allNoted();
        Check.spans("all noted", matcher, 1, 4, 1, 2, 2, 3, 3, 4);
        Check.spans("asked twice", matcher, 1, 4, 1, 2, 2, 3, 3, 4);
        LazyTaggedMatcher ends = Notation.matcher("(.*)($)", FULL);
        Check.due("find(0)", ends.find(0), true);
        Check.spans("0 and 32", ends, 0, 32, 0, 32, 32, 32);
        Twins.unchangedBy("group", twin -> {
            Notation.compile(twin, "(a)(b)?");
            Notation.addText(twin, "cab");
            twin.find(0);
        }, twin -> Check.spans("asked of the one", twin, 1, 3, 1, 2, 2, 3));
    }

    private static void groupWithoutResult() {
        Check.sentence("10: -1 if there is no result");
        Check.spans("new", new LazyTaggedMatcher());
        Check.spans("not looked for yet", Notation.matcher("(a)(b)(c)", "abc"));
        LazyTaggedMatcher matcher = allNoted();
        Check.due("find(2)", matcher.find(2), false);
        Check.spans("find(2)", matcher);
        matcher = allNoted();
        Check.due("whole()", matcher.whole(), false);
        Check.spans("whole()", matcher);
        matcher = allNoted();
        matcher.compile();
        Check.spans("compile()", matcher);
        matcher = allNoted();
        matcher.count();
        Check.spans("count()", matcher);
        matcher = allNoted();
        matcher.starts();
        Check.spans("starts()", matcher);
    }

    private static void noSuchGroup() {
        Check.sentence("10: -1 if there is no such group");
        String[] patterns = {"a", "(a)", "((a))", "(((a)))"};
        for (int groups = 0; groups <= 3; groups++) {
            LazyTaggedMatcher matcher = allNoted();
            Notation.compile(matcher, patterns[groups]);
            Check.due(patterns[groups] + ": find(0)", matcher.find(0), true);
            for (int g = 0; g <= 3; g++) {
                Check.due(patterns[groups] + ": group(" + g + ", false)", matcher.group(g, false), g <= groups ? 1 : -1);
                Check.due(patterns[groups] + ": group(" + g + ", true)", matcher.group(g, true), g <= groups ? 2 : -1);
            }
        }
    }

    private static void found(String pattern, String text, int... beginsAndEnds) {
        LazyTaggedMatcher matcher = Notation.matcher(pattern, text);
        Check.due(pattern + " on " + text + ": find(0)", matcher.find(0), true);
        Check.spans(pattern + " on " + text, matcher, beginsAndEnds);
    }

    private static void groupNotNoted() {
        Check.sentence("10: -1 if the way did not note it");
        found("(a)|(b)|(c)", "b", 0, 1, -1, -1, 0, 1);
        found("(a)?(b)?(c)?", "ac", 0, 2, 0, 1, -1, -1, 1, 2);
        found("(a)*", "b", 0, 0);
        found("(a)??", "a", 0, 0);
        found("(){0,4}", "", 0, 0, 0, 0);
        // Another way noted them, and failed.
        found("(a)(b)c|ab", "ab", 0, 2);
        found("(:(a)(b)d)?(a)", "ab", 0, 1, -1, -1, -1, -1, 0, 1);
        found("(:(a)d|a(:(b)d|bc))", "abc", 0, 3);
        // So did the search from a lesser place.
        found("(a)d|b", "ab", 1, 2);
        LazyTaggedMatcher matcher = Notation.matcher("(a)|b", "ab");
        Check.due("find(0)", matcher.find(0), true);
        Check.spans("find(0)", matcher, 0, 1, 0, 1);
        Check.due("find(1)", matcher.find(1), true);
        Check.spans("find(1)", matcher, 1, 2);
    }

    private static void counts(String pattern, String text, int count) {
        LazyTaggedMatcher matcher = Notation.matcher(pattern, text);
        Check.due(pattern + " on " + text + ": count()", matcher.count(), count);
        Check.due(pattern + " on " + text + ": count() again", matcher.count(), count);
    }

    private static void countOneBehindTheOther() {
        Check.sentence("11: find(0), then always find from the end of the one before");
        counts("a", "", 0);
        counts("a", "b", 0);
        counts("a", "a", 1);
        counts("aa", "aaa", 1);
        counts("aa", "aaaa", 2);
        counts("aba", "ababa", 1);
        counts("a|b", "ab", 2);
        counts(".", FULL, 32);
        counts("..", FULL, 16);
        counts("...", FULL, 10);
        counts("^.", FULL, 1);
        counts(".$", FULL, 1);
        counts("a*", "a", 2);
        counts("a*", "aab", 3);
        counts("(:.{4,4}){4,4}(:.{4,4}){4,4}", FULL, 1);
    }

    private static void countOfEmptyMatches() {
        Check.sentence("11: or from one place behind it if that was empty");
        counts("", "", 1);
        counts("", "a", 2);
        counts("", FULL, 33);
        counts("a??", "aa", 3);
        counts("^", "aa", 1);
        counts("$", "aa", 1);
        counts("^|$", "aa", 2);
        counts("^|$", "", 1);
        counts("|a", "aa", 3);
        // The empty match at place 0 keeps the one that begins there from being found.
        counts("^|ab", "abab", 2);
        counts("b*", "abb", 3);
    }

    private static void countEndsBeyondTheLength() {
        Check.sentence("11: until there is none (or that place is beyond the length)");
        counts("$", "", 1);
        counts("$", FULL, 1);
        counts("a*$", "baa", 2);
        counts(".*", FULL, 2);
        counts(".*", "", 1);
        counts(".*?", FULL, 33);
        counts("d?", FULL, 33);
    }

    private static void countForgets() {
        Check.sentence("11: The result is forgotten");
        for (String text : new String[] {"", "b", "a", "ba", "ab"}) {
            LazyTaggedMatcher matcher = Notation.matcher("(a)|$", text);
            Check.due(text + ": find(0)", matcher.find(0), true);
            matcher.count();
            Check.spans(text + " after count()", matcher);
        }
        LazyTaggedMatcher gone = Notation.matcher("(a)", "a");
        Check.due("find(0)", gone.find(0), true);
        gone.cut(1);
        Check.due("no match any more: count()", gone.count(), 0);
        Check.spans("no match any more", gone);
        changesTheResultAlone("count()", "(a)|b", "abab", twin -> Check.due("abab", twin.count(), 4));
    }

    private static void countWithoutPattern() {
        Check.sentence("11: 0 if there is no pattern");
        Check.due("new: count()", new LazyTaggedMatcher().count(), 0);
        for (String fault : FAULTS) {
            LazyTaggedMatcher matcher = withoutPattern(fault);
            Check.due(fault + ": count()", matcher.count(), 0);
            Check.spans(fault, matcher);
        }
    }

    private static void starts(String pattern, String text, int bits) {
        LazyTaggedMatcher matcher = Notation.matcher(pattern, text);
        Check.due(pattern + " on " + text + ": starts()", matcher.starts(), bits);
        Check.due(pattern + " on " + text + ": starts() again", matcher.starts(), bits);
    }

    private static void startsOfEachPlace() {
        Check.sentence("12: A bit s for each place s (0..31) of the text from which matching succeeds");
        starts("a", "", 0);
        starts("a", "b", 0);
        starts("a", "aba", 5);
        starts("aa", "aaa", 3);
        for (int s = 0; s <= 31; s++) {
            String text = "a".repeat(s) + "b" + "a".repeat(31 - s);
            starts("b", text, 1 << s);
            starts("a", text, ~(1 << s));
        }
        starts(".", FULL, -1);
        starts("d$", FULL, LOWEST);
        starts(".{2,2}", FULL, HIGHEST);
        starts("^", FULL, 1);
    }

    private static void startsUpToTheLength() {
        Check.sentence("12: (0..31, at most the length)");
        for (int length = 0; length <= 32; length++) {
            String text = FULL.substring(0, length);
            int places = length >= 31 ? -1 : (1 << length + 1) - 1;
            starts("", text, places);
            starts("$", text, length == 32 ? 0 : 1 << length);
            LazyTaggedMatcher cut = Notation.matcher("", FULL);
            cut.cut(32 - length);
            Check.due("cut to " + length + ": starts()", cut.starts(), places);
        }
    }

    private static void startsForget() {
        Check.sentence("12: The result is forgotten");
        for (String text : new String[] {"", "b", "a", "ba", FULL}) {
            LazyTaggedMatcher matcher = Notation.matcher("(a)|$", text);
            Check.due(text + ": find(0)", matcher.find(0), true);
            matcher.starts();
            Check.spans(text + " after starts()", matcher);
        }
        LazyTaggedMatcher gone = Notation.matcher("(a)", "a");
        Check.due("find(0)", gone.find(0), true);
        gone.cut(1);
        Check.due("no match any more: starts()", gone.starts(), 0);
        Check.spans("no match any more", gone);
        changesTheResultAlone("starts()", "(a)|b", "abab", twin -> Check.due("abab", twin.starts(), 15));
    }

    private static void startsWithoutPattern() {
        Check.sentence("12: 0 if there is no pattern");
        Check.due("new: starts()", new LazyTaggedMatcher().starts(), 0);
        for (String fault : FAULTS) {
            LazyTaggedMatcher matcher = withoutPattern(fault);
            Check.due(fault + ": starts()", matcher.starts(), 0);
            Check.spans(fault, matcher);
        }
    }
}
