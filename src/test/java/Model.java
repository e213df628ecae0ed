import java.util.ArrayList;
import java.util.HashSet;
import java.util.List;
import java.util.Set;

/** The document once more, without regard to speed or to LANGUAGE.md: trees, recursion and continuations. */
final class Model {
    private enum Kind { FITS, BEGIN, END, SEQUENCE, BAR, STAR, LAZY_STAR, OPTION, LAZY_OPTION, PLUS, LAZY_PLUS, COUNT, GROUP }

    /** An object is a piece (or two: the beginning and the end of a GROUP); its identity is the piece's. */
    private static final class Node {
        final Kind kind;
        final int value;
        final List<Node> parts;

        Node(Kind kind, int value, List<Node> parts) {
            this.kind = kind;
            this.value = value;
            this.parts = parts;
        }

        Node(Kind kind, Node... parts) {
            this(kind, 0, List.of(parts));
        }
    }

    private interface Rest {
        boolean go(int place, int[] notes);
    }

    private record Visit(Node piece, boolean end, int place) {
    }

    private final List<int[]> tokens = new ArrayList<>();
    private final List<Integer> text = new ArrayList<>();
    private Node pattern = null;
    private int[] result = null;
    private int fault = -1;

    private List<int[]> parsed;
    private int next;
    private int groups;
    private Set<Visit> visits;
    private int[] found;

    boolean token(int kind, int value) {
        boolean good = kind >= 0 && kind <= 15 && tokens.size() < 24;
        if (kind == 0) {
            good &= value >= 0 && value <= 3;
        } else if (kind == 2) {
            good &= value >= 1 && value <= 15;
        } else if (kind == 14) {
            good &= value >= 0 && value % 8 >= 1 && value % 8 <= 4 && value / 8 <= value % 8;
        }
        if (good) {
            tokens.add(new int[] {kind, value});
        }
        return good;
    }

    int wipe() {
        int size = tokens.size();
        tokens.clear();
        return size;
    }

    int compile() {
        pattern = null;
        result = null;
        fault = -1;
        for (int i = 1; i <= tokens.size() && fault < 0; i++) {
            if (!beginsSomePattern(tokens.subList(0, i))) {
                fault = i - 1;
            }
        }
        Node tree = fault < 0 ? parse(tokens) : null;
        if (tree == null) {
            fault = fault < 0 ? tokens.size() : fault;
            return LazyTaggedMatcher.SYNTAX;
        }
        if (size(tree) > 36) {
            fault = tokens.size();
            return LazyTaggedMatcher.LARGE;
        }
        pattern = expanded(tree);
        return LazyTaggedMatcher.OK;
    }

    int place() {
        return fault;
    }

    boolean type(int c) {
        return c >= 0 && c <= 3 && text.size() < 32 && text.add(c);
    }

    int cut(int n) {
        int taken = 0;
        while (taken < n && !text.isEmpty()) {
            text.remove(text.size() - 1);
            taken++;
        }
        return taken;
    }

    boolean find(int from) {
        result = null;
        for (int s = from; s >= 0 && s <= text.size() && result == null; s++) {
            result = match(s, false);
        }
        return result != null;
    }

    boolean whole() {
        result = match(0, true);
        return result != null;
    }

    int group(int g, boolean end) {
        return result == null || g < 0 || g > 3 ? -1 : result[2 * g + (end ? 1 : 0)];
    }

    int count() {
        int matches = 0;
        boolean more = find(0);
        while (more) {
            matches++;
            more = find(result[1] + (result[0] == result[1] ? 1 : 0));
        }
        return matches;
    }

    int starts() {
        int bits = 0;
        for (int s = 0; s <= 31 && s <= text.size(); s++) {
            bits |= match(s, false) != null ? 1 << s : 0;
        }
        result = null;
        return bits;
    }

    /** A beginning can be gone on with to a pattern if closing its open brackets makes one of it. */
    private boolean beginsSomePattern(List<int[]> beginning) {
        List<int[]> tried = new ArrayList<>(beginning);
        for (int i = 0; i <= beginning.size(); i++) {
            if (parse(tried) != null) {
                return true;
            }
            tried.add(new int[] {5, 0});
        }
        return false;
    }

    private Node parse(List<int[]> from) {
        parsed = from;
        next = 0;
        groups = 0;
        Node tree = parseAlternatives();
        return next == from.size() ? tree : null;
    }

    private int kindAhead() {
        return next < parsed.size() ? parsed.get(next)[0] : -1;
    }

    private Node parseAlternatives() {
        List<Node> branches = new ArrayList<>();
        branches.add(parseSequence());
        while (kindAhead() == 6 && branches.get(branches.size() - 1) != null) {
            next++;
            branches.add(parseSequence());
        }
        if (branches.contains(null)) {
            return null;
        }
        return branches.size() == 1 ? branches.get(0) : new Node(Kind.BAR, 0, branches);
    }

    private Node parseSequence() {
        List<Node> parts = new ArrayList<>();
        while (kindAhead() >= 0 && kindAhead() != 5 && kindAhead() != 6) {
            Node atom = parseAtom();
            if (atom == null) {
                return null;
            }
            parts.add(parseQuantifier(atom));
        }
        return new Node(Kind.SEQUENCE, 0, parts);
    }

    private Node parseAtom() {
        int[] token = parsed.get(next++);
        switch (token[0]) {
            case 0: return new Node(Kind.FITS, 1 << token[1], List.of());
            case 1: return new Node(Kind.FITS, 15, List.of());
            case 2: return new Node(Kind.FITS, token[1], List.of());
            case 13: return new Node(Kind.BEGIN);
            case 15: return new Node(Kind.END);
            case 3: return parseBracket(++groups);
            case 4: return parseBracket(0);
            default: return null;
        }
    }

    private Node parseBracket(int group) {
        Node inside = group > 3 ? null : parseAlternatives();
        if (inside == null || kindAhead() != 5) {
            return null;
        }
        next++;
        return group == 0 ? inside : new Node(Kind.GROUP, group, List.of(inside));
    }

    private Node parseQuantifier(Node atom) {
        Kind kind;
        switch (kindAhead()) {
            case 7: kind = Kind.STAR; break;
            case 8: kind = Kind.PLUS; break;
            case 9: kind = Kind.OPTION; break;
            case 10: kind = Kind.LAZY_STAR; break;
            case 11: kind = Kind.LAZY_PLUS; break;
            case 12: kind = Kind.LAZY_OPTION; break;
            case 14: kind = Kind.COUNT; break;
            default: return atom;
        }
        return new Node(kind, parsed.get(next++)[1], List.of(atom));
    }

    private static long size(Node node) {
        long inside = 0;
        for (Node part : node.parts) {
            inside += size(part);
        }
        switch (node.kind) {
            case SEQUENCE: return inside;
            case BAR: return inside + node.parts.size() - 1;
            case GROUP: return inside + 2;
            case PLUS: case LAZY_PLUS: return 2 * inside + 1;
            case COUNT: return node.value % 8 * inside + node.value % 8 - node.value / 8;
            default: return inside + 1;
        }
    }

    /** A new tree at each call, so that what occurs several times is made of pieces of its own each time. */
    private static Node expanded(Node node) {
        switch (node.kind) {
            case PLUS:
                return new Node(Kind.SEQUENCE, expanded(node.parts.get(0)), new Node(Kind.STAR, expanded(node.parts.get(0))));
            case LAZY_PLUS:
                return new Node(Kind.SEQUENCE, expanded(node.parts.get(0)), new Node(Kind.LAZY_STAR, expanded(node.parts.get(0))));
            case COUNT:
                return counted(node.parts.get(0), node.value / 8, node.value % 8);
            default:
                List<Node> parts = new ArrayList<>();
                for (Node part : node.parts) {
                    parts.add(expanded(part));
                }
                return new Node(node.kind, node.value, parts);
        }
    }

    private static Node counted(Node x, int m, int n) {
        if (n == 0) {
            return new Node(Kind.SEQUENCE);
        }
        if (m > 0) {
            return new Node(Kind.SEQUENCE, expanded(x), counted(x, m - 1, n - 1));
        }
        return new Node(Kind.OPTION, new Node(Kind.SEQUENCE, expanded(x), counted(x, 0, n - 1)));
    }

    private int[] match(int s, boolean toTextEnd) {
        if (pattern == null) {
            return null;
        }
        visits = new HashSet<>();
        found = null;
        int[] nothing = {s, -1, -1, -1, -1, -1, -1, -1};
        way(pattern, s, nothing, (place, notes) -> {
            if (toTextEnd && place != text.size()) {
                return false;
            }
            found = noted(notes, 1, place);
            return true;
        });
        return found;
    }

    private static int[] noted(int[] notes, int which, int place) {
        int[] changed = notes.clone();
        changed[which] = place;
        return changed;
    }

    private boolean way(Node node, int place, int[] notes, Rest rest) {
        if (node.kind == Kind.SEQUENCE) {
            return wayThrough(node.parts, place, notes, rest);
        }
        if (!visits.add(new Visit(node, false, place))) {
            return false;
        }
        switch (node.kind) {
            case FITS:
                return place < text.size() && (node.value & 1 << text.get(place)) != 0 && rest.go(place + 1, notes);
            case BEGIN:
                return place == 0 && rest.go(place, notes);
            case END:
                return place == text.size() && rest.go(place, notes);
            case BAR:
                for (Node branch : node.parts) {
                    if (way(branch, place, notes, rest)) {
                        return true;
                    }
                }
                return false;
            case GROUP:
                return way(node.parts.get(0), place, noted(notes, 2 * node.value, place), (end, endNotes) ->
                    visits.add(new Visit(node, true, end)) && rest.go(end, noted(endNotes, 2 * node.value + 1, end)));
            default:
                return wayOfRepetition(node, place, notes, rest);
        }
    }

    private boolean wayThrough(List<Node> parts, int place, int[] notes, Rest rest) {
        if (parts.isEmpty()) {
            return rest.go(place, notes);
        }
        List<Node> others = parts.subList(1, parts.size());
        return way(parts.get(0), place, notes, (end, endNotes) -> wayThrough(others, end, endNotes, rest));
    }

    private boolean wayOfRepetition(Node node, int place, int[] notes, Rest rest) {
        Node x = node.parts.get(0);
        boolean star = node.kind == Kind.STAR || node.kind == Kind.LAZY_STAR;
        Rest behindX = star ? (end, endNotes) -> way(node, end, endNotes, rest) : rest;
        if (node.kind == Kind.STAR || node.kind == Kind.OPTION) {
            return way(x, place, notes, behindX) || rest.go(place, notes);
        }
        return rest.go(place, notes) || way(x, place, notes, behindX);
    }
}
