/** The bound of 512 calls in "What it is": the 512th call is still promised; later ones may answer anything, but end. */
public final class CallsBoundaryTest {
    private static final int MOST_CALLS = 512;
    private static final int LATER_CALLS = 200000;
    private static final int[] ARGUMENTS = {Integer.MIN_VALUE, -1, 0, 1, 2, 3, 4, 5, 7, 12, 14, 15, 16, 31, 32, 33, 36, Integer.MAX_VALUE};

    private static long state = 20261116L;

    public static void main(String[] args) {
        theLastPromisedCall();
        laterCallsEnd();
        Check.finish();
    }

    /** An object with "(a)*b" on "aab" and a result, after this number of calls. */
    private static LazyTaggedMatcher madeUpTo(int calls) {
        LazyTaggedMatcher matcher = Notation.matcher("(a)*b", "aab");
        int madeByNotation = 1 + 5 + 1 + 3;
        for (int made = madeByNotation; made < calls - 1; made++) {
            switch (made % 4) {
                case 0: matcher.whole(); break;
                case 1: matcher.starts(); break;
                case 2: matcher.compile(); break;
                default: matcher.place(); break;
            }
        }
        matcher.find(0);
        return matcher;
    }

    private static void theLastPromisedCall() {
        Check.sentence("An object is used for at most 512 calls after it has been made");
        int before = MOST_CALLS - 1;
        Check.due("512th: find(1)", madeUpTo(before).find(1), true);
        Check.due("512th: find(4)", madeUpTo(before).find(4), false);
        Check.due("512th: whole()", madeUpTo(before).whole(), true);
        Check.due("512th: group(1, true)", madeUpTo(before).group(1, true), 2);
        Check.due("512th: count()", madeUpTo(before).count(), 1);
        Check.due("512th: starts()", madeUpTo(before).starts(), 7);
        Check.due("512th: token(7, 0)", madeUpTo(before).token(7, 0), true);
        Check.due("512th: wipe()", madeUpTo(before).wipe(), 5);
        Check.due("512th: compile()", madeUpTo(before).compile(), LazyTaggedMatcher.OK);
        Check.due("512th: place()", madeUpTo(before).place(), -1);
        Check.due("512th: type(0)", madeUpTo(before).type(0), true);
        Check.due("512th: cut(4)", madeUpTo(before).cut(4), 3);
    }

    // LANGUAGE.md, rule 7: no call may ever throw or fail to end, for any arguments in any state.
    private static void laterCallsEnd() {
        Check.sentence("what later calls answer is free");
        LazyTaggedMatcher matcher = new LazyTaggedMatcher();
        int matches = 0;
        for (int i = 0; i < LATER_CALLS; i++) {
            anyCall(matcher);
            matches += matcher.group(0, false) >= 0 ? 1 : 0;
        }
        Check.due("matches were met", matches > 100, true);
    }

    private static int below(int bound) {
        state = state * 6364136223846793005L + 1442695040888963407L;
        return (int) ((state >>> 33) % bound);
    }

    private static int argument() {
        return ARGUMENTS[below(ARGUMENTS.length)];
    }

    private static void anyCall(LazyTaggedMatcher matcher) {
        switch (below(24)) {
            case 0: matcher.wipe(); break;
            case 1: case 2: matcher.compile(); break;
            case 3: matcher.place(); break;
            case 4: case 5: case 6: matcher.type(argument()); break;
            case 7: matcher.cut(argument()); break;
            case 8: matcher.find(argument()); break;
            case 9: matcher.whole(); break;
            case 10: matcher.group(argument(), below(2) == 0); break;
            case 11: matcher.count(); break;
            case 12: matcher.starts(); break;
            case 13: matcher.token(argument(), argument()); break;
            default: matcher.token(below(16), argument()); break;
        }
    }
}
