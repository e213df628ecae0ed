/** Promise 1. */
public final class NewObjectTest {
    public static void main(String[] args) {
        Check.due("no tokens: wipe()", new LazyTaggedMatcher().wipe(), 0);
        Check.due("no compile yet: place()", new LazyTaggedMatcher().place(), -1);
        Check.due("an empty text: cut(1)", new LazyTaggedMatcher().cut(1), 0);
        Check.spans("no result", new LazyTaggedMatcher());
        noPattern();
        eachObjectHasItsOwnState();
        Check.due("OK", LazyTaggedMatcher.OK, 0);
        Check.due("SYNTAX", LazyTaggedMatcher.SYNTAX, 1);
        Check.due("LARGE", LazyTaggedMatcher.LARGE, 2);
        Check.finish();
    }

    private static void noPattern() {
        LazyTaggedMatcher matcher = new LazyTaggedMatcher();
        Check.due("no pattern: find(0)", matcher.find(0), false);
        Check.due("no pattern: whole()", matcher.whole(), false);
        Check.due("no pattern: count()", matcher.count(), 0);
        Check.due("no pattern: starts()", matcher.starts(), 0);
        Notation.addTokens(matcher, "a");
        Notation.addText(matcher, "a");
        Check.due("tokens alone are no pattern: find(0)", matcher.find(0), false);
        Check.due("tokens alone are no pattern: whole()", matcher.whole(), false);
        Check.due("tokens alone are no pattern: count()", matcher.count(), 0);
        Check.due("tokens alone are no pattern: starts()", matcher.starts(), 0);
    }

    private static void eachObjectHasItsOwnState() {
        LazyTaggedMatcher one = Notation.matcher("a", "aa");
        LazyTaggedMatcher other = new LazyTaggedMatcher();
        Check.due("the one: find(1)", one.find(1), true);
        Check.due("the other: find(0)", other.find(0), false);
        Check.due("the other: wipe()", other.wipe(), 0);
        Check.spans("the one", one, 1, 2);
    }
}
