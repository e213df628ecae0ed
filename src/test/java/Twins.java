import java.util.ArrayList;
import java.util.Arrays;
import java.util.List;
import java.util.function.Consumer;

/**
 * Two objects that went through the same calls but for some that are due to change nothing: asked for all that can be
 * seen of an object (the place, the result, the pattern, the tokens, the text), both are due to answer the same.
 */
final class Twins {
    private Twins() {
    }

    /** The calls are made on the one twin only. */
    static void unchangedBy(String what, Consumer<LazyTaggedMatcher> before, Consumer<LazyTaggedMatcher> calls) {
        LazyTaggedMatcher one = new LazyTaggedMatcher();
        LazyTaggedMatcher other = new LazyTaggedMatcher();
        before.accept(one);
        before.accept(other);
        calls.accept(one);
        same(what, one, other);
    }

    /** Uses both up: the tokens, the pattern and the result are others afterwards. */
    static void same(String what, LazyTaggedMatcher one, LazyTaggedMatcher other) {
        List<Integer> got = seen(one);
        List<Integer> want = seen(other);
        Check.due(what + ": " + got + " against " + want, got.equals(want), true);
    }

    /** Whether two patterns of tokens answer the same on each text of at most five characters of a and b. */
    static void samePatterns(String what, int[][] one, int[][] other) {
        for (int length = 0; length <= 5; length++) {
            for (int bits = 0; bits < 1 << length; bits++) {
                LazyTaggedMatcher first = patternAndText(one, length, bits);
                LazyTaggedMatcher second = patternAndText(other, length, bits);
                List<Integer> got = seenOfPattern(first);
                List<Integer> want = seenOfPattern(second);
                String text = Integer.toBinaryString(1 << length | bits).substring(1);
                Check.due(what + " on " + text + ": " + got + " against " + want, got.equals(want), true);
            }
        }
    }

    private static LazyTaggedMatcher patternAndText(int[][] tokens, int length, int bits) {
        LazyTaggedMatcher matcher = new LazyTaggedMatcher();
        for (int[] token : tokens) {
            Check.due(Arrays.toString(token) + " is a token", matcher.token(token[0], token[1]), true);
        }
        Check.due("compile()", matcher.compile(), LazyTaggedMatcher.OK);
        for (int i = length - 1; i >= 0; i--) {
            matcher.type(bits >> i & 1);
        }
        return matcher;
    }

    private static List<Integer> seen(LazyTaggedMatcher matcher) {
        List<Integer> answers = new ArrayList<>();
        answers.add(matcher.place());
        addResult(answers, matcher);
        answers.addAll(seenOfPattern(matcher));
        answers.add(matcher.compile());
        answers.add(matcher.place());
        answers.addAll(seenOfPattern(matcher));
        answers.add(matcher.wipe());
        addText(answers, matcher);
        return answers;
    }

    private static List<Integer> seenOfPattern(LazyTaggedMatcher matcher) {
        List<Integer> answers = new ArrayList<>();
        answers.add(matcher.find(0) ? 1 : 0);
        addResult(answers, matcher);
        answers.add(matcher.find(1) ? 1 : 0);
        addResult(answers, matcher);
        answers.add(matcher.whole() ? 1 : 0);
        addResult(answers, matcher);
        answers.add(matcher.count());
        answers.add(matcher.starts());
        return answers;
    }

    private static void addResult(List<Integer> answers, LazyTaggedMatcher matcher) {
        for (int g = 0; g <= 3; g++) {
            answers.add(matcher.group(g, false));
            answers.add(matcher.group(g, true));
        }
    }

    private static void addText(List<Integer> answers, LazyTaggedMatcher matcher) {
        for (int c = 0; c <= 3; c++) {
            matcher.token(0, c);
            matcher.compile();
            answers.add(matcher.starts());
            matcher.wipe();
        }
        answers.add(matcher.cut(40));
    }
}
