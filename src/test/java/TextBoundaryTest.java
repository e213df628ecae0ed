/** The boundary cases of promises 6 and 7: a method for each sentence that names one. */
public final class TextBoundaryTest {
    private static final int LOWEST = Integer.MIN_VALUE;
    private static final int HIGHEST = Integer.MAX_VALUE;
    private static final String FULL = "abcdabcdabcdabcdabcdabcdabcdabcd";

    public static void main(String[] args) {
        typeAppends();
        typeOutside();
        typeAbove32();
        cutTakesTheLast();
        cutOfMoreThanThereAre();
        cutOfOnesBelowOne();
        cutKeepsTheResult();
        Check.finish();
    }

    private static void found(LazyTaggedMatcher matcher, String text) {
        Notation.compile(matcher, "(.*)(b?)");
        Notation.addText(matcher, text);
        matcher.find(0);
    }

    /** A text that is the one given answers each of its places to the character there, and has its length. */
    private static void hasText(String what, LazyTaggedMatcher matcher, String text) {
        for (char c = 'a'; c <= 'd'; c++) {
            int places = 0;
            for (int i = 0; i < text.length(); i++) {
                places |= text.charAt(i) == c ? 1 << i : 0;
            }
            Notation.compile(matcher, "" + c);
            Check.due(what + ": places of " + c, matcher.starts(), places);
        }
        Notation.compile(matcher, "$");
        Check.due(what + ": find(0)", matcher.find(0), true);
        Check.due(what + ": length", matcher.group(0, false), text.length());
    }

    private static void typeAppends() {
        Check.sentence("6: Appends a character (0..3) to the text");
        LazyTaggedMatcher matcher = new LazyTaggedMatcher();
        hasText("none", matcher, "");
        Check.due("type(0)", matcher.type(0), true);
        hasText("one", matcher, "a");
        Check.due("type(3)", matcher.type(3), true);
        hasText("two", matcher, "ad");
        Check.due("type(1)", matcher.type(1), true);
        Check.due("type(2)", matcher.type(2), true);
        hasText("four", matcher, "adbc");
        LazyTaggedMatcher full = new LazyTaggedMatcher();
        Notation.addText(full, FULL);
        hasText("32", full, FULL);
    }

    private static void typeOutside() {
        Check.sentence("6: False, changing nothing, if c is outside");
        int[] outside = {-1, 4, -4, 256, 257, 65536, LOWEST, LOWEST + 1, HIGHEST, HIGHEST - 3};
        for (int c : outside) {
            for (String text : new String[] {"", "ab", FULL}) {
                LazyTaggedMatcher matcher = new LazyTaggedMatcher();
                Notation.addText(matcher, text);
                Check.due("type(" + c + ") behind " + text, matcher.type(c), false);
                hasText("type(" + c + ") behind " + text, matcher, text);
                Twins.unchangedBy("type(" + c + ")", twin -> found(twin, text), twin -> twin.type(c));
            }
        }
    }

    private static void typeAbove32() {
        Check.sentence("6: False, changing nothing, if the text has 32");
        for (int c = 0; c <= 3; c++) {
            int character = c;
            LazyTaggedMatcher matcher = new LazyTaggedMatcher();
            Notation.addText(matcher, FULL.substring(1));
            Check.due("31: type(" + c + ")", matcher.type(c), true);
            Check.due("32: type(" + c + ")", matcher.type(c), false);
            hasText("32", matcher, FULL.substring(1) + (char) ('a' + c));
            Check.due("32: cut(1)", matcher.cut(1), 1);
            Check.due("31 again: type(0)", matcher.type(0), true);
            Check.due("32 again: type(0)", matcher.type(0), false);
            hasText("32 again", matcher, FULL.substring(1) + "a");
            Twins.unchangedBy("32: type(" + c + ")", twin -> found(twin, FULL), twin -> twin.type(character));
        }
    }

    private static void cutTakesTheLast() {
        Check.sentence("7: Takes the last n characters of the text away; answers how many");
        for (int n = 1; n <= 32; n++) {
            LazyTaggedMatcher matcher = new LazyTaggedMatcher();
            Notation.addText(matcher, FULL);
            Check.due("32: cut(" + n + ")", matcher.cut(n), n);
            hasText("32: cut(" + n + ")", matcher, FULL.substring(0, 32 - n));
            Check.due("the rest: cut(32)", matcher.cut(32), 32 - n);
        }
        LazyTaggedMatcher typed = new LazyTaggedMatcher();
        Notation.addText(typed, "abc");
        Check.due("abc: cut(2)", typed.cut(2), 2);
        Notation.addText(typed, "d");
        hasText("a and d", typed, "ad");
    }

    private static void cutOfMoreThanThereAre() {
        Check.sentence("7: (all, if there are fewer)");
        int[] more = {33, 34, 64, 256, 65536, HIGHEST - 1, HIGHEST};
        for (int n : more) {
            for (String text : new String[] {"", "a", "abc", FULL}) {
                LazyTaggedMatcher matcher = new LazyTaggedMatcher();
                Notation.addText(matcher, text);
                Check.due(text + ": cut(" + n + ")", matcher.cut(n), text.length());
                hasText(text + ": cut(" + n + ")", matcher, "");
                Check.due("type behind cut(" + n + ")", matcher.type(1), true);
                hasText("b behind cut(" + n + ")", matcher, "b");
            }
        }
        LazyTaggedMatcher matcher = new LazyTaggedMatcher();
        Check.due("none: cut(1)", matcher.cut(1), 0);
        Notation.addText(matcher, "abc");
        Check.due("three: cut(4)", matcher.cut(4), 3);
        Check.due("none again: cut(1)", matcher.cut(1), 0);
    }

    private static void cutOfOnesBelowOne() {
        Check.sentence("7: 0 if n is below 1");
        int[] below = {0, -1, -2, -32, -33, -256, LOWEST, LOWEST + 1};
        for (int n : below) {
            for (String text : new String[] {"", "ab", FULL}) {
                LazyTaggedMatcher matcher = new LazyTaggedMatcher();
                Notation.addText(matcher, text);
                Check.due(text + ": cut(" + n + ")", matcher.cut(n), 0);
                hasText(text + ": cut(" + n + ")", matcher, text);
                Twins.unchangedBy("cut(" + n + ")", twin -> found(twin, text), twin -> twin.cut(n));
            }
        }
        LazyTaggedMatcher matcher = new LazyTaggedMatcher();
        Notation.addText(matcher, "ab");
        Check.due("ab: cut(1)", matcher.cut(1), 1);
    }

    private static void cutKeepsTheResult() {
        Check.sentence("7: The result stays");
        int[] lengths = {LOWEST, -1, 0, 1, 2, 31, 32, 33, HIGHEST};
        for (int n : lengths) {
            LazyTaggedMatcher matcher = Notation.matcher("(.*)(d)($)", FULL);
            Check.due("find(0)", matcher.find(0), true);
            matcher.cut(n);
            Check.spans("after cut(" + n + ")", matcher, 0, 32, 0, 31, 31, 32, 32, 32);
            matcher.cut(32);
            Check.spans("after all is cut", matcher, 0, 32, 0, 31, 31, 32, 32, 32);
            matcher.type(2);
            Check.spans("after type", matcher, 0, 32, 0, 31, 31, 32, 32, 32);
            Check.due("a new find", matcher.find(0), false);
            Check.spans("after a new find", matcher);
        }
        LazyTaggedMatcher none = Notation.matcher("b", "aa");
        Check.due("find(0)", none.find(0), false);
        none.cut(1);
        Check.spans("no result stays none", none);
    }
}
