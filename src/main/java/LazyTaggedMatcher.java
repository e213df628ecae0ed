// What each call answers is said in the document, shared/DOC.md; README.md tells how to use the class.
//
// A pattern is kept as its pieces, numbered, each with the piece that a way comes to next, so that the
// document's size is the number of pieces, and its matching is a walk over pairs of a piece and a place.
public final class LazyTaggedMatcher {
    public static final int OK = 0, SYNTAX = 1, LARGE = 2;

    private static final int MOST_TOKENS = 24;
    private static final int MOST_LEVELS = MOST_TOKENS + 1;
    private static final int MOST_GROUPS = 3;
    private static final int MOST_PIECES = 36;
    private static final int MOST_TEXT = 32;
    // A search comes to a piece once at each place, and leaves a choice at most then.
    private static final int MOST_CHOICES = MOST_PIECES * (MOST_TEXT + 1);
    // Each turn of a search comes to a piece for the first time at its place, or takes up a choice, or is the last.
    private static final int MOST_TURNS = 2 * MOST_CHOICES + 2;

    private static final int LAST_CHARACTER = 3;
    private static final int EVERY_CHARACTER = 15;
    private static final int MOST_TIMES = 4;

    private static final int TOKEN_CHAR = 0, TOKEN_ANY = 1, TOKEN_SET = 2, TOKEN_GROUP = 3, TOKEN_BRACKET = 4;
    private static final int TOKEN_CLOSE = 5, TOKEN_BAR = 6, TOKEN_STAR = 7, TOKEN_PLUS = 8, TOKEN_OPTION = 9;
    private static final int TOKEN_LAZY_STAR = 10, TOKEN_LAZY_PLUS = 11, TOKEN_LAZY_OPTION = 12;
    private static final int TOKEN_BEGIN = 13, TOKEN_COUNT = 14, TOKEN_END = 15;

    // Stars, options and bars are all forks: a piece with a way to try first and one to try second.
    private static final int PIECE_FITS = 0, PIECE_BEGIN = 1, PIECE_END = 2, PIECE_NOTE = 3, PIECE_FORK = 4;

    private static final int NOWHERE = -1;
    // Where a piece leads out of the part that is being built; in the finished pattern, the pattern's end.
    private static final int OUT = -1;
    private static final int NO_BRANCH = -2;

    private static final int NOTE_BITS = 6;
    private static final long NOTE_MASK = 63L;

    private final int[] tokenKind = new int[MOST_TOKENS];
    private final int[] tokenValue = new int[MOST_TOKENS];
    private int tokens = 0;
    private int faultPlace = NOWHERE;

    private final int[] text = new int[MOST_TEXT];
    private int length = 0;

    private final int[] pieceKind = new int[MOST_PIECES];
    private final int[] pieceValue = new int[MOST_PIECES];
    private final int[] pieceNext = new int[MOST_PIECES];
    private final int[] pieceSecond = new int[MOST_PIECES];
    private int pieces = 0;
    private int patternEntry = OUT;
    private boolean hasPattern = false;
    private boolean tooLarge = false;

    // A level is the pattern itself (0) or an open bracket; its branches are what its bars part.
    private final int[] levelGroup = new int[MOST_LEVELS];
    private final int[] levelStart = new int[MOST_LEVELS];
    private final int[] levelEntry = new int[MOST_LEVELS];
    private final int[] branchStart = new int[MOST_LEVELS];
    private final int[] branchEntry = new int[MOST_LEVELS];
    private int level = 0;
    private int groups = 0;
    private int atomStart = 0;
    private int atomEntry = OUT;

    private final long[] placesSeen = new long[MOST_PIECES];
    private final int[] choicePiece = new int[MOST_CHOICES];
    private final int[] choicePlace = new int[MOST_CHOICES];
    private final long[] choiceNotes = new long[MOST_CHOICES];
    private int choices = 0;
    private int wayPiece = OUT;
    private int wayPlace = 0;
    // Six notes of six bits, each the noted place plus one, so that 0 is a way that noted nothing.
    private long wayNotes = 0L;

    private boolean hasResult = false;
    private int resultStart = 0;
    private int resultEnd = 0;
    private long resultNotes = 0L;

    public LazyTaggedMatcher() {
    }

    public boolean token(int kind, int value) {
        if (tokens >= MOST_TOKENS || kind < TOKEN_CHAR || kind > TOKEN_END || !isValueOf(kind, value)) {
            return false;
        }
        tokenKind[tokens] = kind;
        tokenValue[tokens] = value;
        tokens++;
        return true;
    }

    public int wipe() {
        int removed = tokens;
        tokens = 0;
        return removed;
    }

    public int compile() {
        hasPattern = false;
        hasResult = false;
        faultPlace = findFault();
        if (faultPlace != NOWHERE) {
            return SYNTAX;
        }
        buildPattern();
        if (tooLarge) {
            faultPlace = tokens;
            return LARGE;
        }
        hasPattern = true;
        return OK;
    }

    public int place() {
        return faultPlace;
    }

    public boolean type(int c) {
        if (c < 0 || c > LAST_CHARACTER || length >= MOST_TEXT) {
            return false;
        }
        text[length] = c;
        length++;
        return true;
    }

    public int cut(int n) {
        if (n < 1) {
            return 0;
        }
        int taken = n < length ? n : length;
        length -= taken;
        return taken;
    }

    public boolean find(int from) {
        hasResult = false;
        if (!hasPattern || from < 0) {
            return false;
        }
        for (int start = from; start <= length; start++) {
            if (matchesFrom(start, false)) {
                return true;
            }
        }
        return false;
    }

    public boolean whole() {
        hasResult = false;
        return hasPattern && matchesFrom(0, true);
    }

    public int group(int g, boolean end) {
        if (!hasResult || g < 0 || g > MOST_GROUPS) {
            return NOWHERE;
        }
        if (g == 0) {
            return end ? resultEnd : resultStart;
        }
        int shift = NOTE_BITS * noteNumber(g, end);
        return (int) (resultNotes >>> shift & NOTE_MASK) - 1;
    }

    public int count() {
        int found = 0;
        int from = 0;
        // Every match moves from on by one place at least.
        for (int turn = 0; turn <= MOST_TEXT; turn++) {
            if (!find(from)) {
                break;
            }
            found++;
            from = resultEnd > resultStart ? resultEnd : resultEnd + 1;
        }
        hasResult = false;
        return found;
    }

    public int starts() {
        int bits = 0;
        for (int start = 0; start < MOST_TEXT && start <= length && hasPattern; start++) {
            if (matchesFrom(start, false)) {
                bits |= 1 << start;
            }
        }
        hasResult = false;
        return bits;
    }

    private static boolean isValueOf(int kind, int value) {
        switch (kind) {
            case TOKEN_CHAR:
                return value >= 0 && value <= LAST_CHARACTER;
            case TOKEN_SET:
                return value >= 1 && value <= EVERY_CHARACTER;
            case TOKEN_COUNT:
                int least = leastTimes(value);
                int most = mostTimes(value);
                return value >= 0 && least <= most && most >= 1 && most <= MOST_TIMES;
            default:
                return true;
        }
    }

    private static int leastTimes(int value) {
        return value >> 3;
    }

    private static int mostTimes(int value) {
        return value & 7;
    }

    private static boolean isQuantifier(int kind) {
        return kind >= TOKEN_STAR && kind <= TOKEN_LAZY_OPTION || kind == TOKEN_COUNT;
    }

    private static int noteNumber(int group, boolean end) {
        return 2 * (group - 1) + (end ? 1 : 0);
    }

    private int findFault() {
        int open = 0;
        int opened = 0;
        boolean behindAtom = false;
        for (int i = 0; i < tokens; i++) {
            int kind = tokenKind[i];
            if (isQuantifier(kind) && !behindAtom || kind == TOKEN_CLOSE && open == 0
                    || kind == TOKEN_GROUP && opened == MOST_GROUPS) {
                return i;
            }
            boolean opens = kind == TOKEN_GROUP || kind == TOKEN_BRACKET;
            if (opens) {
                open++;
            }
            if (kind == TOKEN_GROUP) {
                opened++;
            }
            if (kind == TOKEN_CLOSE) {
                open--;
            }
            behindAtom = !opens && kind != TOKEN_BAR && !isQuantifier(kind);
        }
        return open > 0 ? tokens : NOWHERE;
    }

    // No part of a pattern is larger than the whole, so building may end at the first piece too many.
    private void buildPattern() {
        pieces = 0;
        tooLarge = false;
        groups = 0;
        level = 0;
        beginLevel(0);
        atomEntry = OUT;
        for (int i = 0; i < tokens && !tooLarge; i++) {
            if (isQuantifier(tokenKind[i])) {
                repeatAtom(tokenKind[i], tokenValue[i]);
            } else {
                joinAtom();
                takeToken(tokenKind[i], tokenValue[i]);
            }
        }
        joinAtom();
        endBranch();
        patternEntry = levelEntry[level];
    }

    private void takeToken(int kind, int value) {
        switch (kind) {
            case TOKEN_CHAR:
                addAtom(PIECE_FITS, 1 << value);
                break;
            case TOKEN_ANY:
                addAtom(PIECE_FITS, EVERY_CHARACTER);
                break;
            case TOKEN_SET:
                addAtom(PIECE_FITS, value);
                break;
            case TOKEN_BEGIN:
                addAtom(PIECE_BEGIN, 0);
                break;
            case TOKEN_END:
                addAtom(PIECE_END, 0);
                break;
            case TOKEN_GROUP:
                groups++;
                level++;
                beginLevel(groups);
                break;
            case TOKEN_BRACKET:
                level++;
                beginLevel(0);
                break;
            case TOKEN_CLOSE:
                closeLevel();
                break;
            default:
                endBranch();
                break;
        }
    }

    private void beginLevel(int group) {
        levelGroup[level] = group;
        levelStart[level] = pieces;
        levelEntry[level] = NO_BRANCH;
        branchStart[level] = pieces;
        branchEntry[level] = OUT;
    }

    private void closeLevel() {
        endBranch();
        int group = levelGroup[level];
        atomStart = levelStart[level];
        atomEntry = levelEntry[level];
        level--;
        if (group > 0) {
            wrapAtom(group);
        }
    }

    private void wrapAtom(int group) {
        int inside = pieces;
        int beginNote = noteNumber(group, false);
        int endNote = noteNumber(group, true);
        int end = addPiece(PIECE_NOTE, endNote, OUT, OUT);
        leadOutTo(atomStart, inside, end);
        int first = atomEntry == OUT ? end : atomEntry;
        atomEntry = addPiece(PIECE_NOTE, beginNote, first, OUT);
    }

    private void endBranch() {
        if (levelEntry[level] == NO_BRANCH) {
            levelEntry[level] = branchEntry[level];
        } else {
            levelEntry[level] = addPiece(PIECE_FORK, 0, levelEntry[level], branchEntry[level]);
        }
        branchStart[level] = pieces;
        branchEntry[level] = OUT;
    }

    private void addAtom(int kind, int value) {
        atomStart = pieces;
        atomEntry = addPiece(kind, value, OUT, OUT);
    }

    // An atom waits for its quantifier before it becomes part of its branch.
    private void joinAtom() {
        if (atomEntry == OUT) {
            return;
        }
        if (branchEntry[level] == OUT) {
            branchEntry[level] = atomEntry;
        } else {
            leadOutTo(branchStart[level], atomStart, atomEntry);
        }
        atomEntry = OUT;
    }

    private void repeatAtom(int kind, int value) {
        switch (kind) {
            case TOKEN_STAR:
            case TOKEN_LAZY_STAR:
                atomEntry = addStar(atomStart, atomEntry, kind == TOKEN_LAZY_STAR);
                break;
            case TOKEN_PLUS:
            case TOKEN_LAZY_PLUS:
                repeatOnceOrMore(kind == TOKEN_LAZY_PLUS);
                break;
            case TOKEN_OPTION:
                atomEntry = addPiece(PIECE_FORK, 0, atomEntry, OUT);
                break;
            case TOKEN_LAZY_OPTION:
                atomEntry = addPiece(PIECE_FORK, 0, OUT, atomEntry);
                break;
            default:
                int least = leastTimes(value);
                int most = mostTimes(value);
                repeatCounted(least, most);
                break;
        }
    }

    private int addStar(int start, int entry, boolean lazy) {
        int star = pieces;
        int inside = entry == OUT ? star : entry;
        leadOutTo(start, star, star);
        return lazy ? addPiece(PIECE_FORK, 0, OUT, inside) : addPiece(PIECE_FORK, 0, inside, OUT);
    }

    private void repeatOnceOrMore(boolean lazy) {
        int size = pieces - atomStart;
        copyAtom(size, 1);
        if (tooLarge) {
            return;
        }
        int second = atomStart + size;
        int secondEntry = moved(atomEntry, size);
        int star = addStar(second, secondEntry, lazy);
        leadOutTo(atomStart, second, star);
        if (atomEntry == OUT) {
            atomEntry = star;
        }
    }

    private void repeatCounted(int least, int most) {
        int size = pieces - atomStart;
        copyAtom(size, most - 1);
        if (tooLarge) {
            return;
        }
        int behind = OUT;
        for (int copy = most - 1; copy >= 0; copy--) {
            int start = atomStart + copy * size;
            leadOutTo(start, start + size, behind);
            if (atomEntry != OUT) {
                behind = atomEntry + copy * size;
            }
            if (copy >= least) {
                behind = addPiece(PIECE_FORK, 0, behind, OUT);
            }
        }
        atomEntry = behind;
    }

    private void copyAtom(int size, int times) {
        int added = size * times;
        if (pieces + added > MOST_PIECES) {
            tooLarge = true;
            return;
        }
        for (int i = 0; i < added; i++) {
            int from = atomStart + i;
            int to = from + size;
            pieceKind[to] = pieceKind[from];
            pieceValue[to] = pieceValue[from];
            pieceNext[to] = moved(pieceNext[from], size);
            pieceSecond[to] = moved(pieceSecond[from], size);
        }
        pieces += added;
    }

    private static int moved(int piece, int by) {
        return piece == OUT ? OUT : piece + by;
    }

    private int addPiece(int kind, int value, int next, int second) {
        if (pieces >= MOST_PIECES) {
            tooLarge = true;
            return OUT;
        }
        pieceKind[pieces] = kind;
        pieceValue[pieces] = value;
        pieceNext[pieces] = next;
        pieceSecond[pieces] = second;
        pieces++;
        return pieces - 1;
    }

    private void leadOutTo(int start, int behind, int target) {
        for (int i = start; i < behind; i++) {
            if (pieceNext[i] == OUT) {
                pieceNext[i] = target;
            }
            if (pieceSecond[i] == OUT) {
                pieceSecond[i] = target;
            }
        }
    }

    private boolean matchesFrom(int start, boolean toTextEnd) {
        beginSearch(start);
        for (int turn = 0; turn < MOST_TURNS; turn++) {
            if (wayPiece == OUT && (!toTextEnd || wayPlace == length)) {
                keepResult(start);
                return true;
            }
            if (!advance() && !takeUpChoice()) {
                return false;
            }
        }
        return false;
    }

    private void beginSearch(int start) {
        for (int i = 0; i < pieces; i++) {
            placesSeen[i] = 0L;
        }
        choices = 0;
        wayPiece = patternEntry;
        wayPlace = start;
        wayNotes = 0L;
    }

    private void keepResult(int start) {
        hasResult = true;
        resultStart = start;
        resultEnd = wayPlace;
        resultNotes = wayNotes;
    }

    private boolean advance() {
        int piece = wayPiece;
        if (piece == OUT || (placesSeen[piece] >>> wayPlace & 1L) != 0L) {
            return false;
        }
        placesSeen[piece] |= 1L << wayPlace;
        wayPiece = pieceNext[piece];
        switch (pieceKind[piece]) {
            case PIECE_FITS:
                return advanceOver(pieceValue[piece]);
            case PIECE_BEGIN:
                return wayPlace == 0;
            case PIECE_END:
                return wayPlace == length;
            case PIECE_NOTE:
                notePlace(pieceValue[piece]);
                return true;
            default:
                leaveChoice(pieceSecond[piece]);
                return true;
        }
    }

    private boolean advanceOver(int fitting) {
        if (wayPlace >= length || (fitting >> text[wayPlace] & 1) == 0) {
            return false;
        }
        wayPlace++;
        return true;
    }

    private void notePlace(int number) {
        int shift = NOTE_BITS * number;
        wayNotes = wayNotes & ~(NOTE_MASK << shift) | (long) (wayPlace + 1) << shift;
    }

    private void leaveChoice(int piece) {
        if (choices >= MOST_CHOICES) {
            return;
        }
        choicePiece[choices] = piece;
        choicePlace[choices] = wayPlace;
        choiceNotes[choices] = wayNotes;
        choices++;
    }

    private boolean takeUpChoice() {
        if (choices == 0) {
            return false;
        }
        choices--;
        wayPiece = choicePiece[choices];
        wayPlace = choicePlace[choices];
        wayNotes = choiceNotes[choices];
        return true;
    }
}
