import java.util.ArrayList;
import java.util.List;

/**
 * The document a second time, method by method: plain lists of nodes and bars, the errors in the document's order, and
 * the oracle for whatever has to be computed. It shares no line with the program.
 */
final class Model {
    private static final long GONE = -4000000000000000000L;
    private static final int UNKNOWN = -1;
    private static final int OUTSIDE = -2;
    private static final int STATE = -3;
    private static final int FULL = -4;
    private static final int NO = -5;
    private static final int NONE = -6;

    /** Per node x, y, kind and six loads; per bar first, second, length, vertical, strength. */
    private List<int[]> nodes = new ArrayList<>();
    private List<int[]> bars = new ArrayList<>();
    private final List<List<int[]>> keptNodes = new ArrayList<>();
    private final List<List<int[]>> keptBars = new ArrayList<>();

    /** What was computed since the last change; null where nothing was. */
    private Oracle oracle;
    private boolean loose;
    private List<Integer> sets;
    private List<Ratio[]> motions;
    private Ratio[][] limitsOf;
    private int[] kindOf;
    private Ratio[][] momentsOf;

    Model() {
        for (int k = 0; k < 2; k++) {
            keptNodes.add(null);
            keptBars.add(null);
        }
    }

    private static boolean out(int value, int least, int greatest) {
        return value < least || value > greatest;
    }

    private static List<int[]> copy(List<int[]> rows) {
        List<int[]> copies = new ArrayList<>();
        for (int[] row : rows) {
            copies.add(row.clone());
        }
        return copies;
    }

    private boolean noNode(int node) {
        return node < 0 || node >= nodes.size();
    }

    private boolean noBar(int bar) {
        return bar < 0 || bar >= bars.size();
    }

    private boolean noEnd(int end) {
        return end < 0 || end >= 2 * bars.size();
    }

    private void changed() {
        oracle = null;
    }

    // ---- the frame

    int node(int x, int y, int kind) {
        if (out(x, 0, 9) || out(y, 0, 9) || out(kind, 0, 3)) {
            return OUTSIDE;
        }
        for (int[] other : nodes) {
            if (other[0] == x && other[1] == y) {
                return NO;
            }
        }
        if (nodes.size() == 7) {
            return FULL;
        }
        nodes.add(new int[] {x, y, kind, 0, 0, 0, 0, 0, 0});
        changed();
        return nodes.size() - 1;
    }

    int hold(int node, int kind) {
        if (noNode(node)) {
            return UNKNOWN;
        }
        if (out(kind, 0, 3)) {
            return OUTSIDE;
        }
        int previous = nodes.get(node)[2];
        nodes.get(node)[2] = kind;
        changed();
        return previous;
    }

    int bar(int first, int second, int strength) {
        if (noNode(first) || noNode(second)) {
            return UNKNOWN;
        }
        int right = nodes.get(second)[0] - nodes.get(first)[0];
        int up = nodes.get(second)[1] - nodes.get(first)[1];
        boolean horizontal = up == 0 && right >= 1 && right <= 4;
        boolean vertical = right == 0 && up >= 1 && up <= 4;
        if (out(strength, 1, 12) || !horizontal && !vertical) {
            return OUTSIDE;
        }
        for (int[] other : bars) {
            if (other[0] == first && other[1] == second) {
                return NO;
            }
        }
        if (bars.size() == 6) {
            return FULL;
        }
        bars.add(new int[] {first, second, right + up, vertical ? 1 : 0, strength});
        changed();
        return bars.size() - 1;
    }

    int lift(int bar) {
        if (noBar(bar)) {
            return UNKNOWN;
        }
        bars.remove(bar);
        changed();
        return bars.size();
    }

    int strengthen(int bar, int strength) {
        if (noBar(bar)) {
            return UNKNOWN;
        }
        if (out(strength, 1, 12)) {
            return OUTSIDE;
        }
        int previous = bars.get(bar)[4];
        bars.get(bar)[4] = strength;
        changed();
        return previous;
    }

    int load(int c, int node, int right, int up) {
        if (noNode(node)) {
            return UNKNOWN;
        }
        if (out(c, 0, 2) || out(right, -5, 5) || out(up, -5, 5)) {
            return OUTSIDE;
        }
        nodes.get(node)[3 + 2 * c] = right;
        nodes.get(node)[4 + 2 * c] = up;
        changed();
        int loaded = 0;
        for (int[] one : nodes) {
            loaded += one[3 + 2 * c] != 0 || one[4 + 2 * c] != 0 ? 1 : 0;
        }
        return loaded;
    }

    int ofNode(int node, int what) {
        if (noNode(node)) {
            return UNKNOWN;
        }
        return out(what, 0, 8) ? OUTSIDE : nodes.get(node)[what];
    }

    int ofBar(int bar, int what) {
        if (noBar(bar)) {
            return UNKNOWN;
        }
        return out(what, 0, 4) ? OUTSIDE : bars.get(bar)[what];
    }

    int count(int what) {
        switch (what) {
            case 0: return nodes.size();
            case 1: return bars.size();
            case 2: return isLoose() ? 1 : 0;
            case 3: return oracle().motions.size();
            case 4: return oracle().selfStresses();
            case 5: return isLoose() ? STATE : sets().size();
            case 6: return (keptNodes.get(0) == null ? 0 : 1) + (keptNodes.get(1) == null ? 0 : 2);
            default: return OUTSIDE;
        }
    }

    // ---- mechanisms

    int mechanism(int i) {
        if (isLoose()) {
            return STATE;
        }
        return i < 0 || i >= sets().size() ? UNKNOWN : sets().get(i);
    }

    long twist(int i, int end, int what) {
        if (out(what, 0, 1)) {
            return GONE + OUTSIDE;
        }
        if (isLoose()) {
            return GONE + STATE;
        }
        if (i < 0 || i >= sets().size() || noEnd(end)) {
            return GONE + UNKNOWN;
        }
        Ratio[] twists = oracle().twistsIn(motions.get(i));
        int lowest = 0;
        while ((sets().get(i) >> lowest & 1) == 0) {
            lowest++;
        }
        return term(twists[end].over(twists[lowest]), what);
    }

    long bound(int i, int c, int what) {
        if (out(c, 1, 2) || out(what, 0, 3)) {
            return GONE + OUTSIDE;
        }
        if (isLoose()) {
            return GONE + STATE;
        }
        if (i < 0 || i >= sets().size()) {
            return GONE + UNKNOWN;
        }
        Ratio work = oracle().work(motions.get(i), c);
        if (work.isZero()) {
            return GONE + NO;
        }
        Ratio strain = oracle().strain(motions.get(i));
        Ratio sign = Ratio.of(work.sign());
        Ratio rest = (what < 2 ? strain : strain.negated()).minus(oracle().work(motions.get(i), 0).times(sign));
        return term(rest.over(work.times(sign)), what % 2);
    }

    // ---- factors

    int limits(int c) {
        if (out(c, 1, 2)) {
            return OUTSIDE;
        }
        return isLoose() ? STATE : kind(c);
    }

    /** What stands before the answers about a limit factor. */
    private int error(int c, int side) {
        if (out(c, 1, 2) || out(side, 0, 1)) {
            return OUTSIDE;
        }
        if (isLoose()) {
            return STATE;
        }
        return kind(c) == 0 ? 0 : NO;
    }

    long factor(int c, int side, int what) {
        int error = out(what, 0, 1) ? OUTSIDE : error(c, side);
        return error != 0 ? GONE + error : term(limit(c, side), what);
    }

    int near(int c, int side) {
        int error = error(c, side);
        if (error != 0) {
            return error;
        }
        float numerator = limit(c, side).top.longValueExact();
        float denominator = limit(c, side).bottom.longValueExact();
        return Float.floatToIntBits(numerator / denominator);
    }

    int bears(int one, int other, int q) {
        if (out(one, -99, 99) || out(other, -99, 99) || out(q, 1, 99)) {
            return OUTSIDE;
        }
        if (isLoose()) {
            return STATE;
        }
        return oracle().bears(one, other, q) ? 1 : 0;
    }

    long moment(int c, int side, int end, int what) {
        if (noEnd(end)) {
            return GONE + UNKNOWN;
        }
        int error = out(what, 0, 3) ? OUTSIDE : error(c, side);
        return error != 0 ? GONE + error : term(moments(c, side)[2 * end + what / 2], what % 2);
    }

    int yields(int c, int side) {
        int error = error(c, side);
        if (error != 0) {
            return error;
        }
        int set = 0;
        Ratio[] moments = moments(c, side);
        for (int end = 0; end < 2 * bars.size(); end++) {
            Ratio strength = Ratio.of(bars.get(end / 2)[4]);
            boolean always = moments[2 * end + 1].compareTo(strength) == 0;
            boolean never = moments[2 * end].compareTo(strength.negated()) == 0;
            set += always || never ? 1 << end : 0;
        }
        return set;
    }

    int binding(int c, int side, int what) {
        int error = out(what, 0, 1) ? OUTSIDE : error(c, side);
        if (error != 0) {
            return error;
        }
        int number = 0;
        int lowest = NONE;
        for (int i = sets().size() - 1; i >= 0; i--) {
            Ratio[] motion = motions.get(i);
            Ratio work = oracle().work(motion, 0).plus(limit(c, side).times(oracle().work(motion, c)));
            if (work.size().compareTo(oracle().strain(motion)) == 0) {
                number++;
                lowest = i;
            }
        }
        return what == 0 ? number : lowest;
    }

    // ---- strengths

    int spare(int c, int bar) {
        if (noBar(bar)) {
            return UNKNOWN;
        }
        int error = error(c, 0);
        if (error != 0) {
            return error;
        }
        int spare = 0;
        for (int n = 1; n < bars.get(bar)[4]; n++) {
            Ratio would = greatestWith(c, bar, -n);
            if (would != null && would.compareTo(limit(c, 0)) == 0) {
                spare = n;
            }
        }
        return spare;
    }

    int weakest(int c) {
        int error = error(c, 0);
        if (error != 0) {
            return error;
        }
        int weakest = NONE;
        Ratio best = limit(c, 0);
        for (int bar = 0; bar < bars.size(); bar++) {
            Ratio would = greatestWith(c, bar, 1);
            if (would != null && would.compareTo(best) > 0) {
                best = would;
                weakest = bar;
            }
        }
        return weakest;
    }

    // ---- images

    int image(int k) {
        if (out(k, 0, 1)) {
            return OUTSIDE;
        }
        keptNodes.set(k, copy(nodes));
        keptBars.set(k, copy(bars));
        return 1;
    }

    int restore(int k) {
        if (out(k, 0, 1)) {
            return OUTSIDE;
        }
        if (keptNodes.get(k) == null) {
            return NO;
        }
        nodes = copy(keptNodes.get(k));
        bars = copy(keptBars.get(k));
        changed();
        return 1;
    }

    // ---- what is computed, once for each state

    private static long term(Ratio ratio, int what) {
        return (what == 0 ? ratio.top : ratio.bottom).longValueExact();
    }

    private Oracle oracle() {
        if (oracle == null) {
            oracle = new Oracle(nodes.toArray(new int[0][]), bars.toArray(new int[0][]));
            loose = oracle.looseness() > 0;
            sets = null;
            limitsOf = new Ratio[3][2];
            kindOf = new int[] {-1, -1, -1};
            momentsOf = new Ratio[6][];
        }
        return oracle;
    }

    private boolean isLoose() {
        oracle();
        return loose;
    }

    private List<Integer> sets() {
        oracle();
        if (sets == null) {
            sets = new ArrayList<>();
            motions = oracle.mechanismMotions(sets);
        }
        return sets;
    }

    private int kind(int c) {
        oracle();
        if (kindOf[c] < 0) {
            kindOf[c] = oracle.factors(c, limitsOf[c]);
        }
        return kindOf[c];
    }

    private Ratio limit(int c, int side) {
        kind(c);
        return limitsOf[c][side];
    }

    private Ratio[] moments(int c, int side) {
        int at = 2 * c + side;
        if (momentsOf[at] == null) {
            momentsOf[at] = oracle.moments(c, limit(c, side));
        }
        return momentsOf[at];
    }

    /** The greatest factor if the strength of a bar were greater by extra; null if there were none. */
    private Ratio greatestWith(int c, int bar, int extra) {
        List<int[]> others = copy(bars);
        others.get(bar)[4] += extra;
        Ratio[] limits = new Ratio[2];
        Oracle changed = new Oracle(nodes.toArray(new int[0][]), others.toArray(new int[0][]));
        return changed.factors(c, limits) == 0 ? limits[0] : null;
    }
}
