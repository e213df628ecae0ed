/** Terms: the order of the ways, the groups, the pieces, and that no way comes to a piece at a place twice. */
public final class MatchingTest {
    public static void main(String[] args) {
        characters();
        anchors();
        order();
        repetition();
        counted();
        groups();
        emptyRounds();
        piecesOfTheirOwn();
        longSearches();
        Check.finish();
    }

    private static void finds(String pattern, String text, int... beginsAndEnds) {
        LazyTaggedMatcher matcher = Notation.matcher(pattern, text);
        String what = pattern + " on " + text;
        Check.due(what + ": find(0)", matcher.find(0), beginsAndEnds.length > 0);
        Check.spans(what, matcher, beginsAndEnds);
    }

    private static void matchesWhole(String pattern, String text, int... beginsAndEnds) {
        LazyTaggedMatcher matcher = Notation.matcher(pattern, text);
        String what = pattern + " on whole " + text;
        Check.due(what + ": whole()", matcher.whole(), beginsAndEnds.length > 0);
        Check.spans(what, matcher, beginsAndEnds);
    }

    private static void characters() {
        String[] letters = {"a", "b", "c", "d"};
        for (int c = 0; c < 4; c++) {
            for (int fitting = 1; fitting <= 15; fitting++) {
                LazyTaggedMatcher matcher = new LazyTaggedMatcher();
                matcher.token(2, fitting);
                matcher.compile();
                matcher.type(c);
                Check.due("SET " + fitting + " on " + c, matcher.whole(), (fitting & 1 << c) != 0);
            }
            for (int d = 0; d < 4; d++) {
                Check.due("CHAR " + c + " on " + d, Notation.matcher(letters[c], letters[d]).whole(), c == d);
            }
            finds(".", letters[c], 0, 1);
        }
        finds(".", "");
        finds("a", "");
        finds("ab", "a");
    }

    private static void anchors() {
        finds("^b", "ab");
        finds("a^", "ab");
        finds("$", "ab", 2, 2);
        finds("a$", "aab");
        finds("b$", "abab", 3, 4);
        finds("^$", "", 0, 0);
        finds("^$", "a");
        finds("^*a", "ba", 1, 2);
        finds("(:^|b)a", "cba", 1, 3);
        finds("($){2,3}", "a", 1, 1, 1, 1);
        finds("a(:$|b)$", "ab", 0, 2);
    }

    private static void order() {
        finds("a|ab", "ab", 0, 1);
        finds("ab|a", "ab", 0, 2);
        finds("|a", "a", 0, 0);
        finds("a|", "a", 0, 1);
        finds("d|(a)|(.)|(ab)", "ab", 0, 1, 0, 1);
        finds("d|c|(.)|(a)", "ab", 0, 1, 0, 1);
        finds("(a|ab)(c|bcd)(d*)", "abcd", 0, 4, 0, 1, 1, 4, 4, 4);
        finds("(:a|ab)(:c|b)", "ab", 0, 2);
        finds("a?", "a", 0, 1);
        finds("a??", "a", 0, 0);
        finds("a??b", "ab", 0, 2);
        finds("(a?)(ab)?", "ab", 0, 1, 0, 1);
        finds("(a??)(ab)?", "ab", 0, 2, 0, 0, 0, 2);
    }

    private static void repetition() {
        finds("a*", "aaab", 0, 3);
        finds("a*?", "aaab", 0, 0);
        finds("a*?b", "aaab", 0, 4);
        finds("a+", "aaab", 0, 3);
        finds("a+?", "aaab", 0, 1);
        finds("a+", "b");
        finds("a+?b", "aab", 0, 3);
        finds("(a*)(a*)", "aa", 0, 2, 0, 2, 2, 2);
        finds("(a*?)(a*)", "aa", 0, 2, 0, 0, 0, 2);
        finds("(a+)(a+)", "aaa", 0, 3, 0, 2, 2, 3);
        finds("(a+?)(a+?)", "aaa", 0, 2, 0, 1, 1, 2);
        finds("(a+?)(a+)", "aaa", 0, 3, 0, 1, 1, 3);
        finds("(.*)(b)(.*)", "abab", 0, 4, 0, 3, 3, 4, 4, 4);
        finds("(.*?)(b)(.*?)$", "abab", 0, 4, 0, 1, 1, 2, 2, 4);
        finds("(:a|b)*?c", "ababc", 0, 5);
        matchesWhole("(a*?)(.*?)", "aab", 0, 3, 0, 0, 0, 3);
    }

    private static void counted() {
        for (int n = 1; n <= 4; n++) {
            for (int m = 0; m <= n; m++) {
                String pattern = "a{" + m + "," + n + "}";
                for (int length = 0; length <= 6; length++) {
                    String text = "a".repeat(length);
                    int[] first = length < m ? new int[0] : new int[] {0, Math.min(n, length)};
                    finds(pattern, text, first);
                    int[] all = length < m || length > n ? new int[0] : new int[] {0, length};
                    matchesWhole(pattern, text, all);
                    int[] behind = length < m ? new int[0] : new int[] {length <= n ? 0 : length - n, length + 1};
                    finds(pattern + "b", text + "b", behind);
                }
            }
        }
        finds("(a|ab){2,2}", "aba", 0, 3, 2, 3);
        finds("(a|ab){0,4}c", "aabac", 0, 5, 3, 4);
        finds("(:(a)|b){2,3}", "abb", 0, 3, 0, 1);
        finds("(:(a)|b){2,3}", "bab", 0, 3, 1, 2);
        finds("(:a{2,2}){2,2}", "aaaaaa", 0, 4);
        matchesWhole("(:a{1,2}b){1,2}", "aabab", 0, 5);
        matchesWhole("(:a+b){1,2}", "aabaaab", 0, 7);
    }

    private static void groups() {
        finds("((a)(b))", "cab", 1, 3, 1, 3, 1, 2, 2, 3);
        finds("(:(a)|(b)|(c))*", "abc", 0, 3, 0, 1, 1, 2, 2, 3);
        finds("(:(a)|(b)|(c))*", "cba", 0, 3, 2, 3, 1, 2, 0, 1);
        finds("(:(a)|(b)|(c))*", "aca", 0, 3, 2, 3, -1, -1, 1, 2);
        finds("(:(a)|b)*", "ab", 0, 2, 0, 1);
        finds("(a|b)*", "abab", 0, 4, 3, 4);
        finds("(:a(b)?)+", "abaa", 0, 4, 1, 2);
        finds("(a)c|(a)b|(a)", "ab", 0, 2, -1, -1, 0, 1);
        finds("(:(a)*b)?(a)", "aac", 0, 1, -1, -1, 0, 1);
        finds("()", "a", 0, 0, 0, 0);
        finds("(a)?(b)??", "ab", 0, 1, 0, 1);
        finds("(a*)*", "aa", 0, 2, 0, 2);
        finds("(:(a)|a(b))+?$", "aab", 0, 3, 0, 1, 2, 3);
    }

    // A round of a star that took no character comes to the star at its place again, and so fails.
    private static void emptyRounds() {
        finds("(a*)*", "b", 0, 0);
        finds("(a*)+", "b", 0, 0, 0, 0);
        finds("(|a)*", "aa", 0, 2, 1, 2);
        finds("(|a)+", "aa", 0, 2, 1, 2);
        finds("(a|)*", "aa", 0, 2, 1, 2);
        finds("(|a)*?b", "aab", 0, 3, 1, 2);
        finds("()*", "a", 0, 0);
        finds("()*?", "a", 0, 0);
        finds("()+", "a", 0, 0, 0, 0);
        finds("()+?", "a", 0, 0, 0, 0);
        finds("()?", "a", 0, 0, 0, 0);
        finds("()??", "a", 0, 0);
        finds("(:)*a", "ba", 1, 2);
        finds("(:)+?a", "ba", 1, 2);
        finds("(:(:)*)*a", "a", 0, 1);
        finds("(^)*a", "a", 0, 1);
        finds("($)*", "a", 0, 0);
        // The second round of the outer star fails at place 1: the first round came to the inner star there before.
        finds("(a*?)*?b", "aab", 0, 3, 0, 2);
        finds("(:(a*)|b)*", "ab", 0, 2, 0, 1);
        finds("(:a|(b*))*", "aba", 0, 3, 1, 2);
        finds("(a|b*)*c", "abbc", 0, 4, 1, 3);
    }

    // Copies are pieces apart: what one came to does not keep another from coming there.
    private static void piecesOfTheirOwn() {
        finds("(){4,4}", "a", 0, 0, 0, 0);
        finds("(:){0,4}a", "a", 0, 1);
        finds("(a?){4,4}", "aa", 0, 2, 2, 2);
        finds("(a?){0,4}", "aa", 0, 2, 2, 2);
        finds("(a??){2,2}b", "aab", 0, 3, 1, 2);
        finds("(a|){3,3}", "a", 0, 1, 1, 1);
        finds("(|a){1,3}", "aa", 0, 0, 0, 0);
        finds("(|a){1,3}b", "aab", 0, 3, 1, 2);
        finds("(:|(a)){2,2}$", "a", 0, 1, 0, 1);
        finds("(a*){2,2}", "aa", 0, 2, 2, 2);
        finds("(a*)+", "aa", 0, 2, 0, 2);
        finds("(a*)+?", "aa", 0, 2, 0, 2);
        matchesWhole("(|a)+?", "aa", 0, 2, 1, 2);
    }

    private static void longSearches() {
        String all = "a".repeat(32);
        finds("(:a*)*b", all);
        finds("(:(:a*)*|(:a+)+?)*b", all);
        finds("(:a?){4,4}(:a?){4,4}(:a?){4,4}(:a?){4,4}", all, 0, 16);
        finds("(.*)(.*)(.*)$", all, 0, 32, 0, 32, 32, 32, 32, 32);
        matchesWhole("(.*?)(.*?)(.*?)", all, 0, 32, 0, 0, 0, 0, 0, 32);
        Check.due("(a|a)* b: count()", Notation.matcher("(:a|a|a|a)*b", all).count(), 0);
        Check.due("(a|a)*: starts()", Notation.matcher("(:a|a|a|a)*a", all).starts(), -1);
    }
}
