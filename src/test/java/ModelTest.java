/** Long runs of calls, made by a fixed rule, on the class and on Model: all answers are due to be the same. */
public final class ModelTest {
    private static final int RUNS = 20000;
    private static final int MOST_CALLS = 512;

    private static long state = 20261115L;
    private static final int[] answers = new int[3];
    private static int successes = 0;

    private LazyTaggedMatcher matcher = new LazyTaggedMatcher();
    private Model model = new Model();
    private final StringBuilder calls = new StringBuilder();
    private int made = 0;

    public static void main(String[] args) {
        for (int run = 0; run < RUNS; run++) {
            new ModelTest().run(run % 50 == 0 ? MOST_CALLS : 200);
        }
        System.out.println("compile: " + answers[0] + " OK, " + answers[1] + " SYNTAX, " + answers[2] + " LARGE; matches: " + successes);
        Check.due("each answer of compile was met", answers[0] > RUNS && answers[1] > RUNS / 10 && answers[2] > RUNS / 20, true);
        Check.due("matches were met", successes > RUNS, true);
        Check.finish();
    }

    private static int below(int bound) {
        state = state * 6364136223846793005L + 1442695040888963407L;
        return (int) ((state >>> 33) % bound);
    }

    private void run(int most) {
        while (made < most - 80) {
            writePattern();
            writeText();
            for (int i = below(25); i > 0 && made < most - 10; i--) {
                anyCall();
            }
        }
    }

    private void compare(String call, int got, int want) {
        made++;
        calls.append(call).append(" = ").append(want).append(' ');
        Check.due(got == want ? "" : calls.toString(), got, want);
    }

    private void token(int kind, int value) {
        compare("token(" + kind + ", " + value + ")", matcher.token(kind, value) ? 1 : 0, model.token(kind, value) ? 1 : 0);
    }

    private void compile() {
        int want = model.compile();
        answers[want]++;
        compare("compile()", matcher.compile(), want);
        compare("place()", matcher.place(), model.place());
    }

    private void groups() {
        for (int g = 0; g <= 3; g++) {
            compare("group(" + g + ", false)", matcher.group(g, false), model.group(g, false));
            compare("group(" + g + ", true)", matcher.group(g, true), model.group(g, true));
        }
    }

    private void find(int from) {
        boolean want = model.find(from);
        successes += want ? 1 : 0;
        compare("find(" + from + ")", matcher.find(from) ? 1 : 0, want ? 1 : 0);
        groups();
    }

    private void whole() {
        boolean want = model.whole();
        successes += want ? 1 : 0;
        compare("whole()", matcher.whole() ? 1 : 0, want ? 1 : 0);
        groups();
    }

    private void type(int c) {
        compare("type(" + c + ")", matcher.type(c) ? 1 : 0, model.type(c) ? 1 : 0);
    }

    private void cut(int n) {
        compare("cut(" + n + ")", matcher.cut(n), model.cut(n));
    }

    private void writePattern() {
        if (below(8) != 0) {
            compare("wipe()", matcher.wipe(), model.wipe());
        }
        int wanted = below(4) == 0 ? 20 : 1 + below(14);
        int groups = 0;
        int open = 0;
        boolean atom = false;
        for (int i = 0; i + open + open / 2 < wanted; i++) {
            int roll = below(24);
            if (roll < 7 && atom) {
                quantifier();
                atom = false;
            } else if (roll < 11) {
                boolean group = below(4) != 0 && (groups < 3 || below(12) == 0);
                token(group ? 3 : 4, 0);
                groups += group ? 1 : 0;
                open++;
                atom = false;
            } else if (roll < 14 && open > 0) {
                token(5, 0);
                open--;
                atom = true;
            } else if (roll < 16) {
                token(6, 0);
                atom = false;
            } else {
                character();
                atom = true;
            }
            if (below(80) == 0) {
                token(below(18) - 1, below(40) - 2);
            }
        }
        closeBrackets(open);
        compile();
    }

    private void closeBrackets(int open) {
        for (int left = open; left > 0 && below(60) != 0; left--) {
            token(5, 0);
            if (below(3) == 0) {
                quantifier();
            }
        }
    }

    private void quantifier() {
        int n = 1 + below(4);
        int m = below(n + 1);
        token(below(3) == 0 ? 14 : 7 + below(6), 8 * m + n);
    }

    private void character() {
        int roll = below(12);
        if (roll == 0) {
            token(13, 0);
        } else if (roll == 1) {
            token(15, 0);
        } else if (roll == 2) {
            token(1, 0);
        } else if (roll < 5) {
            token(2, 1 + below(15));
        } else {
            token(0, below(below(4) + 1));
        }
    }

    private void writeText() {
        if (below(3) == 0) {
            cut(below(40));
        }
        int letters = 1 + below(4);
        for (int i = below(5) == 0 ? 33 : below(9); i > 0; i--) {
            type(below(letters));
        }
    }

    private void anyCall() {
        switch (below(14)) {
            case 0: case 1: find(0); break;
            case 2: find(below(36) - 2); break;
            case 3: case 4: whole(); break;
            case 5: compare("count()", matcher.count(), model.count()); break;
            case 6: compare("starts()", matcher.starts(), model.starts()); break;
            case 7: groups(); break;
            case 8: case 9: type(below(6) - 1); break;
            case 10: case 11: cut(below(6) - 1); break;
            case 12: token(below(18) - 1, below(40) - 2); break;
            default: compare("place()", matcher.place(), model.place()); break;
        }
    }
}
