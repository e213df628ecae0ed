import java.util.ArrayList;
import java.util.List;

/**
 * Patterns and texts written as strings, so that a test can be read: a to d are the characters 0 to 3, '.' is ANY,
 * [ab] a SET, ( opens a GROUP, (: opens none, {m,n} is COUNT; * + ? | ) ^ $ and *? +? ?? are themselves.
 */
final class Notation {
    private Notation() {
    }

    static int[][] tokens(String pattern) {
        List<int[]> tokens = new ArrayList<>();
        int i = 0;
        while (i < pattern.length()) {
            char c = pattern.charAt(i);
            int behind = i + 1;
            if (c >= 'a' && c <= 'd') {
                tokens.add(new int[] {0, c - 'a'});
            } else if (c == '[') {
                behind = pattern.indexOf(']', i) + 1;
                tokens.add(new int[] {2, setOf(pattern.substring(i + 1, behind - 1))});
            } else if (c == '{') {
                tokens.add(new int[] {14, 8 * (pattern.charAt(i + 1) - '0') + pattern.charAt(i + 3) - '0'});
                behind = i + 5;
            } else if (c == '(' && pattern.startsWith("(:", i)) {
                tokens.add(new int[] {4, 0});
                behind = i + 2;
            } else if ("*+?".indexOf(c) >= 0) {
                boolean lazy = pattern.startsWith("?", i + 1);
                tokens.add(new int[] {"*+?".indexOf(c) + (lazy ? 10 : 7), 0});
                behind = lazy ? i + 2 : i + 1;
            } else {
                tokens.add(new int[] {kindOf(c), 0});
            }
            i = behind;
        }
        return tokens.toArray(new int[0][]);
    }

    private static int setOf(String characters) {
        int set = 0;
        for (char c : characters.toCharArray()) {
            set |= 1 << c - 'a';
        }
        return set;
    }

    private static int kindOf(char c) {
        switch (c) {
            case '.': return 1;
            case '(': return 3;
            case ')': return 5;
            case '|': return 6;
            case '^': return 13;
            case '$': return 15;
            default: throw new IllegalArgumentException("no token: " + c);
        }
    }

    static void addTokens(LazyTaggedMatcher matcher, String pattern) {
        for (int[] token : tokens(pattern)) {
            Check.due(pattern + ": token(" + token[0] + ", " + token[1] + ")", matcher.token(token[0], token[1]), true);
        }
    }

    static void addText(LazyTaggedMatcher matcher, String text) {
        for (char c : text.toCharArray()) {
            Check.due(text + ": type(" + (c - 'a') + ")", matcher.type(c - 'a'), true);
        }
    }

    /** Makes the pattern the matcher's in place of what it has; the pattern is due to be a good one. */
    static void compile(LazyTaggedMatcher matcher, String pattern) {
        matcher.wipe();
        addTokens(matcher, pattern);
        Check.due(pattern + ": compile()", matcher.compile(), LazyTaggedMatcher.OK);
    }

    static LazyTaggedMatcher matcher(String pattern, String text) {
        LazyTaggedMatcher matcher = new LazyTaggedMatcher();
        compile(matcher, pattern);
        addText(matcher, text);
        return matcher;
    }
}
