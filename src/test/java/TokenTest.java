/** Promises 2 and 3. */
public final class TokenTest {
    private static final int LOWEST = Integer.MIN_VALUE;
    private static final int HIGHEST = Integer.MAX_VALUE;

    public static void main(String[] args) {
        for (int kind = -3; kind <= 40; kind++) {
            for (int value = -70; value <= 300; value++) {
                one(kind, value);
            }
            one(kind, LOWEST);
            one(kind, HIGHEST);
        }
        one(LOWEST, 0);
        one(HIGHEST, 0);
        refusedTokenChangesNothing();
        atMost24();
        wipeKeepsPatternResultAndPlace();
        Check.finish();
    }

    private static boolean isGood(int kind, int value) {
        if (kind == 0) {
            return value == 0 || value == 1 || value == 2 || value == 3;
        }
        if (kind == 2) {
            return value > 0 && value < 16;
        }
        if (kind == 14) {
            for (int n = 1; n <= 4; n++) {
                for (int m = 0; m <= n; m++) {
                    if (value == 8 * m + n) {
                        return true;
                    }
                }
            }
            return false;
        }
        return kind >= 0 && kind <= 15;
    }

    private static void one(int kind, int value) {
        LazyTaggedMatcher matcher = new LazyTaggedMatcher();
        boolean good = isGood(kind, value);
        String call = "token(" + kind + ", " + value + ")";
        Check.due(call, matcher.token(kind, value), good);
        Check.due(call + ", wipe()", matcher.wipe(), good ? 1 : 0);
        Check.due(call + ", wipe(), wipe()", matcher.wipe(), 0);
    }

    private static void refusedTokenChangesNothing() {
        LazyTaggedMatcher matcher = Notation.matcher("a(b)", "ab");
        Check.due("find(0)", matcher.find(0), true);
        Check.due("token(16, 0)", matcher.token(16, 0), false);
        Check.due("token(0, 4)", matcher.token(0, 4), false);
        Check.due("token(2, 0)", matcher.token(2, 0), false);
        Check.due("token(14, 0)", matcher.token(14, 0), false);
        Check.spans("after refused tokens", matcher, 0, 2, 1, 2);
        Check.due("after refused tokens: compile()", matcher.compile(), LazyTaggedMatcher.OK);
        Check.due("after refused tokens: whole()", matcher.whole(), true);
        Check.due("after refused tokens: wipe()", matcher.wipe(), 4);
    }

    private static void atMost24() {
        LazyTaggedMatcher matcher = new LazyTaggedMatcher();
        for (int i = 0; i < 24; i++) {
            Check.due("token " + i, matcher.token(0, i % 4), true);
        }
        for (int kind = 0; kind <= 15; kind++) {
            Check.due("a 25th token of kind " + kind, matcher.token(kind, 1), false);
        }
        Check.due("24 tokens: compile()", matcher.compile(), LazyTaggedMatcher.OK);
        Notation.addText(matcher, "abcdabcdabcdabcdabcdabcd");
        Check.due("24 tokens: whole()", matcher.whole(), true);
        Check.due("24 tokens: wipe()", matcher.wipe(), 24);
        Check.due("token after wipe", matcher.token(0, 0), true);
        Check.due("one token: wipe()", matcher.wipe(), 1);
    }

    private static void wipeKeepsPatternResultAndPlace() {
        LazyTaggedMatcher matcher = Notation.matcher("a(b)", "ab");
        Check.due("find(0)", matcher.find(0), true);
        Check.due("wipe()", matcher.wipe(), 4);
        Check.spans("after wipe", matcher, 0, 2, 1, 2);
        Check.due("after wipe: whole()", matcher.whole(), true);
        Check.due("a further token: token(0, 3)", matcher.token(0, 3), true);
        Check.due("a further token: whole()", matcher.whole(), true);
        Check.due("a further token: token(7, 0)", matcher.token(7, 0), true);
        Check.due("a further token: token(8, 0)", matcher.token(8, 0), true);
        Check.due("compile()", matcher.compile(), LazyTaggedMatcher.SYNTAX);
        Check.due("wipe()", matcher.wipe(), 3);
        Check.due("after wipe: place()", matcher.place(), 2);
    }
}
