/** Counts the answers that are not as due, and ends a test with exit code 1 if there was one. */
final class Check {
    private static String sentence = "";
    private static int asked = 0;
    private static int wrong = 0;

    private Check() {
    }

    /** The words of the document that the answers from here on are asked for; they are printed with a wrong answer. */
    static void sentence(String words) {
        sentence = words + "\n    ";
    }

    static void due(String what, long got, long want) {
        asked++;
        if (got != want) {
            wrong++;
            System.out.println(sentence + what + " answered " + got + ", due is " + want);
        }
    }

    static void due(String what, boolean got, boolean want) {
        due(what, got ? 1L : 0L, want ? 1L : 0L);
    }

    /** The spans due of groups 0, 1, .. in this order; the groups behind them are due not to be noted. */
    static void spans(String what, LazyTaggedMatcher matcher, int... beginsAndEnds) {
        for (int g = 0; g <= 3; g++) {
            boolean named = 2 * g < beginsAndEnds.length;
            due(what + ": group(" + g + ", false)", matcher.group(g, false), named ? beginsAndEnds[2 * g] : -1);
            due(what + ": group(" + g + ", true)", matcher.group(g, true), named ? beginsAndEnds[2 * g + 1] : -1);
        }
    }

    static void finish() {
        System.out.println(wrong == 0 ? asked + " answers are as due" : wrong + " of " + asked + " answers are not as due");
        if (wrong != 0) {
            System.exit(1);
        }
    }
}
