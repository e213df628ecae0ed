/** Promises 6 and 7. */
public final class TextTest {
    public static void main(String[] args) {
        wrongCharacters();
        atMost32();
        cuts();
        resultStays();
        textChangesAtItsEnd();
        Check.finish();
    }

    private static void wrongCharacters() {
        LazyTaggedMatcher matcher = Notation.matcher(".*", "");
        int[] wrong = {-1, 4, 5, 32, -4, 256, Integer.MIN_VALUE, Integer.MAX_VALUE};
        for (int c : wrong) {
            Check.due("type(" + c + ")", matcher.type(c), false);
        }
        Check.due("nothing typed: starts()", matcher.starts(), 1);
        Check.due("nothing typed: cut(9)", matcher.cut(9), 0);
        Notation.addText(matcher, "dcba");
        String[] characters = {"d", "c", "b", "a"};
        for (int i = 0; i < 4; i++) {
            Notation.compile(matcher, characters[i]);
            Check.due("dcba, " + characters[i] + ": starts()", matcher.starts(), 1 << i);
        }
    }

    private static void atMost32() {
        LazyTaggedMatcher matcher = Notation.matcher(".*", "");
        for (int i = 0; i < 32; i++) {
            Check.due("type " + i, matcher.type(i % 4), true);
        }
        for (int c = 0; c < 4; c++) {
            Check.due("a 33rd: type(" + c + ")", matcher.type(c), false);
        }
        Check.due("32: whole()", matcher.whole(), true);
        Check.spans("32", matcher, 0, 32);
        Check.due("cut(1)", matcher.cut(1), 1);
        Check.due("again the 32nd: type(0)", matcher.type(0), true);
        Check.due("a 33rd: type(0)", matcher.type(0), false);
        Check.due("cut(33)", matcher.cut(33), 32);
    }

    private static void cuts() {
        LazyTaggedMatcher matcher = Notation.matcher(".*", "abcdabcd");
        Check.due("cut(0)", matcher.cut(0), 0);
        Check.due("cut(-1)", matcher.cut(-1), 0);
        Check.due("cut(lowest)", matcher.cut(Integer.MIN_VALUE), 0);
        Check.due("cut(3)", matcher.cut(3), 3);
        Check.due("find(5)", matcher.find(5), true);
        Check.due("find(6)", matcher.find(6), false);
        Check.due("cut(5)", matcher.cut(5), 5);
        Check.due("cut(1)", matcher.cut(1), 0);
        Notation.addText(matcher, "abc");
        Check.due("cut(4)", matcher.cut(4), 3);
        Notation.addText(matcher, "ab");
        Check.due("cut(highest)", matcher.cut(Integer.MAX_VALUE), 2);
    }

    private static void resultStays() {
        LazyTaggedMatcher matcher = Notation.matcher("b(c)(d)?", "abcd");
        Check.due("find(0)", matcher.find(0), true);
        Check.due("cut(0)", matcher.cut(0), 0);
        Check.due("cut(2)", matcher.cut(2), 2);
        Check.spans("after cut", matcher, 1, 4, 2, 3, 3, 4);
        Check.due("cut(9)", matcher.cut(9), 2);
        Check.spans("after cut of all", matcher, 1, 4, 2, 3, 3, 4);
        Notation.addText(matcher, "a");
        Check.due("type(4)", matcher.type(4), false);
        Check.spans("after type", matcher, 1, 4, 2, 3, 3, 4);
    }

    private static void textChangesAtItsEnd() {
        LazyTaggedMatcher matcher = Notation.matcher("^a.*b$", "aab");
        Check.due("aab: whole()", matcher.whole(), true);
        Notation.addText(matcher, "c");
        Check.due("aabc: whole()", matcher.whole(), false);
        Check.due("aabc: find(0)", matcher.find(0), false);
        matcher.cut(2);
        Check.due("aa: find(0)", matcher.find(0), false);
        Notation.addText(matcher, "db");
        Check.due("aadb: find(0)", matcher.find(0), true);
        Check.spans("aadb", matcher, 0, 4);
    }
}
