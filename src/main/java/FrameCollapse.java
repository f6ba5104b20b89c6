import java.util.Arrays;

/**
 * Plastic limit analysis of plane frames, as ../shared/DOC.md promises it.
 *
 * Everything rests on the mechanisms. A frame bears loads exactly if in the motion of every mechanism their work is at
 * most the strain, because every motion is a sum of mechanism motions whose twists have equal signs at each end.
 */
public final class FrameCollapse {
    public static final int UNKNOWN = -1, OUTSIDE = -2, STATE = -3, FULL = -4, NO = -5, NONE = -6;
    public static final long GONE = -4000000000000000000L;

    private static final int NODES = 7, BARS = 6, CASES = 3, IMAGES = 2;
    private static final int ENDS = 2 * BARS;
    private static final int GRID = 9, REACH = 4, TOUGHEST = 12, HEAVIEST = 5, WIDEST = 99;
    private static final int FREE = 0, FIXED = 2, ROLLER = 3;
    private static final int BOUNDED = 0, ALL = 1, EMPTY = 2;

    private final Frame frame;
    private final Frame[] images;
    private final Motions motions;
    private final Mechanisms mechanisms;
    private final Balance balance;
    private final Fraction answer;
    private int keptImages;
    private boolean shapeKnown;
    private boolean balanceKnown;

    public FrameCollapse() {
        frame = new Frame();
        images = new Frame[IMAGES];
        for (int k = 0; k < IMAGES; k++) {
            images[k] = new Frame();
        }
        balance = new Balance();
        mechanisms = balance.mechanisms;
        motions = mechanisms.motions;
        answer = new Fraction();
    }

    // ---- the frame

    public int node(int x, int y, int kind) {
        if (!within(x, 0, GRID) || !within(y, 0, GRID) || !within(kind, 0, ROLLER)) {
            return OUTSIDE;
        }
        if (frame.nodeAt(x, y)) {
            return NO;
        }
        if (frame.nodes >= NODES) {
            return FULL;
        }
        forgetShape();
        return frame.addNode(x, y, kind);
    }

    public int hold(int node, int kind) {
        if (!isNode(node)) {
            return UNKNOWN;
        }
        if (!within(kind, 0, ROLLER)) {
            return OUTSIDE;
        }
        int previous = frame.kind[node];
        frame.kind[node] = kind;
        forgetShape();
        return previous;
    }

    public int bar(int first, int second, int strength) {
        if (!isNode(first) || !isNode(second)) {
            return UNKNOWN;
        }
        if (!within(strength, 1, TOUGHEST) || !frame.canJoin(first, second)) {
            return OUTSIDE;
        }
        if (frame.barBetween(first, second)) {
            return NO;
        }
        if (frame.bars >= BARS) {
            return FULL;
        }
        forgetShape();
        return frame.addBar(first, second, strength);
    }

    public int lift(int bar) {
        if (!isBar(bar)) {
            return UNKNOWN;
        }
        forgetShape();
        return frame.removeBar(bar);
    }

    public int strengthen(int bar, int strength) {
        if (!isBar(bar)) {
            return UNKNOWN;
        }
        if (!within(strength, 1, TOUGHEST)) {
            return OUTSIDE;
        }
        int previous = frame.strength[bar];
        frame.strength[bar] = strength;
        balanceKnown = false;
        return previous;
    }

    public int load(int c, int node, int right, int up) {
        if (!isNode(node)) {
            return UNKNOWN;
        }
        if (!within(c, 0, CASES - 1) || !within(right, -HEAVIEST, HEAVIEST) || !within(up, -HEAVIEST, HEAVIEST)) {
            return OUTSIDE;
        }
        frame.loads[2 * c][node] = right;
        frame.loads[2 * c + 1][node] = up;
        balanceKnown = false;
        return frame.loadedNodes(c);
    }

    public int ofNode(int node, int what) {
        if (!isNode(node)) {
            return UNKNOWN;
        }
        if (!within(what, 0, 2 + 2 * CASES)) {
            return OUTSIDE;
        }
        switch (what) {
            case 0: return frame.x[node];
            case 1: return frame.y[node];
            case 2: return frame.kind[node];
            default: return frame.loads[what - 3][node];
        }
    }

    public int ofBar(int bar, int what) {
        if (!isBar(bar)) {
            return UNKNOWN;
        }
        switch (what) {
            case 0: return frame.first[bar];
            case 1: return frame.second[bar];
            case 2: return frame.length(bar);
            case 3: return frame.isVertical(bar) ? 1 : 0;
            case 4: return frame.strength[bar];
            default: return OUTSIDE;
        }
    }

    public int count(int what) {
        if (within(what, 2, 5)) {
            refresh();
        }
        switch (what) {
            case 0: return frame.nodes;
            case 1: return frame.bars;
            case 2: return isLoose() ? 1 : 0;
            case 3: return motions.size;
            case 4: return selfStressCount();
            case 5: return isLoose() ? STATE : mechanisms.found;
            case 6: return keptImages;
            default: return OUTSIDE;
        }
    }

    // ---- mechanisms

    public int mechanism(int i) {
        refresh();
        if (isLoose()) {
            return STATE;
        }
        return isMechanism(i) ? mechanisms.sets[i] : UNKNOWN;
    }

    public long twist(int i, int end, int what) {
        if (!within(what, 0, 1)) {
            return GONE + OUTSIDE;
        }
        refresh();
        if (isLoose()) {
            return GONE + STATE;
        }
        if (!isMechanism(i) || !isEnd(end)) {
            return GONE + UNKNOWN;
        }
        answer.put(mechanisms.twistOf(i, end), mechanisms.lowestTwist(i));
        return answer.lowestTerm(what);
    }

    public long bound(int i, int c, int what) {
        if (!isFactored(c) || !within(what, 0, 3)) {
            return GONE + OUTSIDE;
        }
        refresh();
        if (isLoose()) {
            return GONE + STATE;
        }
        if (!isMechanism(i)) {
            return GONE + UNKNOWN;
        }
        if (!balance.findBounds(i, c)) {
            return GONE + NO;
        }
        return balance.extreme(what);
    }

    // ---- factors

    public int limits(int c) {
        if (!isFactored(c)) {
            return OUTSIDE;
        }
        refresh();
        return isLoose() ? STATE : balance.range(c, 0, 0);
    }

    public long factor(int c, int side, int what) {
        refresh();
        int error = within(what, 0, 1) ? limitError(c, side) : OUTSIDE;
        if (error != 0) {
            return GONE + error;
        }
        return balance.limit(side).lowestTerm(what);
    }

    public int near(int c, int side) {
        refresh();
        int error = limitError(c, side);
        if (error != 0) {
            return error;
        }
        return bitsOf(balance.limit(side).asFloat());
    }

    public int bears(int one, int other, int q) {
        if (!within(one, -WIDEST, WIDEST) || !within(other, -WIDEST, WIDEST) || !within(q, 1, WIDEST)) {
            return OUTSIDE;
        }
        refresh();
        if (isLoose()) {
            return STATE;
        }
        return balance.carries(one, other, q) ? 1 : 0;
    }

    public long moment(int c, int side, int end, int what) {
        if (!isEnd(end)) {
            return GONE + UNKNOWN;
        }
        refresh();
        int error = within(what, 0, 3) ? limitError(c, side) : OUTSIDE;
        if (error != 0) {
            return GONE + error;
        }
        balance.takeLimitLoads(c, side);
        balance.findMoments(end);
        return balance.extreme(what);
    }

    public int yields(int c, int side) {
        refresh();
        int error = limitError(c, side);
        if (error != 0) {
            return error;
        }
        balance.takeLimitLoads(c, side);
        return balance.yieldingEnds();
    }

    public int binding(int c, int side, int what) {
        refresh();
        int error = within(what, 0, 1) ? limitError(c, side) : OUTSIDE;
        if (error != 0) {
            return error;
        }
        balance.takeLimitLoads(c, side);
        return what == 0 ? balance.criticalCount() : balance.lowestCritical();
    }

    // ---- strengths

    public int spare(int c, int bar) {
        if (!isBar(bar)) {
            return UNKNOWN;
        }
        refresh();
        int error = limitError(c, 0);
        if (error != 0) {
            return error;
        }
        return balance.spareStrength(c, bar);
    }

    public int weakest(int c) {
        refresh();
        int error = limitError(c, 0);
        if (error != 0) {
            return error;
        }
        return balance.weakestBar(c);
    }

    // ---- images

    public int image(int k) {
        if (!within(k, 0, IMAGES - 1)) {
            return OUTSIDE;
        }
        images[k].copyFrom(frame);
        keptImages |= 1 << k;
        return 1;
    }

    public int restore(int k) {
        if (!within(k, 0, IMAGES - 1)) {
            return OUTSIDE;
        }
        if ((keptImages >> k & 1) == 0) {
            return NO;
        }
        frame.copyFrom(images[k]);
        forgetShape();
        return 1;
    }

    // ---- helpers of the face

    private static boolean within(int value, int least, int greatest) {
        return value >= least && value <= greatest;
    }

    private boolean isNode(int node) {
        return within(node, 0, frame.nodes - 1);
    }

    private boolean isBar(int bar) {
        return within(bar, 0, frame.bars - 1);
    }

    private boolean isEnd(int end) {
        return within(end, 0, 2 * frame.bars - 1);
    }

    /** Asked only when the shape is known and not loose. */
    private boolean isMechanism(int i) {
        return within(i, 0, mechanisms.found - 1);
    }

    private static boolean isFactored(int c) {
        return within(c, 1, CASES - 1);
    }

    private void forgetShape() {
        shapeKnown = false;
        balanceKnown = false;
    }

    /** Every method that asks about motions, mechanisms or factors calls this first. */
    private void refresh() {
        if (!shapeKnown) {
            motions.span(frame);
            mechanisms.find();
            shapeKnown = true;
        }
        if (!balanceKnown) {
            balance.weigh(frame);
            balanceKnown = true;
        }
    }

    private boolean isLoose() {
        return motions.looseness() > 0;
    }

    /** Each bar brings two moments and an axial force; each loose motion makes one equation depend on others. */
    private int selfStressCount() {
        return 3 * frame.bars - (frame.freedoms() - motions.looseness());
    }

    /** 0 if the case has limit factors, which are then ready in balance; else the error code. */
    private int limitError(int c, int side) {
        if (!isFactored(c) || !within(side, 0, 1)) {
            return OUTSIDE;
        }
        if (isLoose()) {
            return STATE;
        }
        return balance.range(c, 0, 0) == BOUNDED ? 0 : NO;
    }

    /**
     * What Float.floatToIntBits answers, which LANGUAGE.md does not list. Halving and doubling are exact, since the
     * quotients of longs stay far from the least and the greatest floats.
     */
    private static int bitsOf(float value) {
        float size = value < 0 ? -value : value;
        if (!(size > 0)) {
            return 0;
        }
        int exponent = 127;
        for (int k = 0; k < 127 && size >= 2; k++) {
            size = size / 2;
            exponent++;
        }
        for (int k = 0; k < 126 && size < 1; k++) {
            size = size * 2;
            exponent--;
        }
        int fraction = (int) ((size - 1) * 8388608);
        return (value < 0 ? 1 << 31 : 0) | exponent << 23 | fraction;
    }

    private static long gcd(long one, long other) {
        long a = Math.abs(one);
        long b = Math.abs(other);
        for (int k = 0; k < 100 && b != 0; k++) {
            long rest = a % b;
            a = b;
            b = rest;
        }
        return a;
    }

    /** A fraction with a positive denominator. It is changed in place, so that no call has to make objects. */
    private static final class Fraction {
        private long top;
        private long bottom;

        Fraction() {
            bottom = 1;
        }

        void put(long numerator, long denominator) {
            top = denominator < 0 ? -numerator : numerator;
            bottom = denominator < 0 ? -denominator : denominator;
        }

        void copyFrom(Fraction other) {
            top = other.top;
            bottom = other.bottom;
        }

        void reduce() {
            long common = gcd(top, bottom);
            if (common > 1) {
                top /= common;
                bottom /= common;
            }
        }

        boolean isWhole(int value) {
            return top == value * bottom;
        }

        /** The numerator (which 0) or the denominator in lowest terms. */
        long lowestTerm(int which) {
            reduce();
            return which == 0 ? top : bottom;
        }

        float asFloat() {
            reduce();
            return bottom > 0 ? (float) top / (float) bottom : 0;
        }

        /** Compares by continued fractions: products of the terms could be too great for a long. */
        boolean isBelow(Fraction other) {
            long a = top;
            long b = bottom;
            long c = other.top;
            long d = other.bottom;
            for (int k = 0; k < 200 && b > 0 && d > 0; k++) {
                long whole = Math.floorDiv(a, b);
                long otherWhole = Math.floorDiv(c, d);
                if (whole != otherWhole) {
                    return whole < otherWhole;
                }
                long rest = a - whole * b;
                long otherRest = c - otherWhole * d;
                if (otherRest == 0) {
                    return false;
                }
                if (rest == 0) {
                    return true;
                }
                a = d;
                c = b;
                b = otherRest;
                d = rest;
            }
            return false;
        }

        boolean isSame(Fraction other) {
            return !isBelow(other) && !other.isBelow(this);
        }
    }

    /** Nodes, bars and loads: all that an image keeps. */
    private static final class Frame {
        private int nodes;
        private int bars;
        private final int[] x;
        private final int[] y;
        private final int[] kind;
        private final int[] first;
        private final int[] second;
        private final int[] strength;
        /** Row 2 * c holds the horizontal and row 2 * c + 1 the vertical loads of case c. */
        private final int[][] loads;

        Frame() {
            x = new int[NODES];
            y = new int[NODES];
            kind = new int[NODES];
            first = new int[BARS];
            second = new int[BARS];
            strength = new int[BARS];
            loads = new int[2 * CASES][NODES];
        }

        void copyFrom(Frame other) {
            nodes = other.nodes;
            bars = other.bars;
            System.arraycopy(other.x, 0, x, 0, NODES);
            System.arraycopy(other.y, 0, y, 0, NODES);
            System.arraycopy(other.kind, 0, kind, 0, NODES);
            System.arraycopy(other.first, 0, first, 0, BARS);
            System.arraycopy(other.second, 0, second, 0, BARS);
            System.arraycopy(other.strength, 0, strength, 0, BARS);
            for (int k = 0; k < 2 * CASES; k++) {
                System.arraycopy(other.loads[k], 0, loads[k], 0, NODES);
            }
        }

        boolean nodeAt(int atX, int atY) {
            for (int n = 0; n < nodes; n++) {
                if (x[n] == atX && y[n] == atY) {
                    return true;
                }
            }
            return false;
        }

        int addNode(int atX, int atY, int ofKind) {
            x[nodes] = atX;
            y[nodes] = atY;
            kind[nodes] = ofKind;
            return nodes++;
        }

        boolean canJoin(int from, int to) {
            int right = x[to] - x[from];
            int up = y[to] - y[from];
            return up == 0 && within(right, 1, REACH) || right == 0 && within(up, 1, REACH);
        }

        boolean barBetween(int from, int to) {
            for (int b = 0; b < bars; b++) {
                if (first[b] == from && second[b] == to) {
                    return true;
                }
            }
            return false;
        }

        int addBar(int from, int to, int ofStrength) {
            first[bars] = from;
            second[bars] = to;
            strength[bars] = ofStrength;
            return bars++;
        }

        int removeBar(int bar) {
            bars--;
            for (int b = bar; b < bars; b++) {
                first[b] = first[b + 1];
                second[b] = second[b + 1];
                strength[b] = strength[b + 1];
            }
            return bars;
        }

        boolean isVertical(int bar) {
            return x[first[bar]] == x[second[bar]];
        }

        /** One of the two differences is 0. */
        int length(int bar) {
            return x[second[bar]] - x[first[bar]] + y[second[bar]] - y[first[bar]];
        }

        int loadedNodes(int c) {
            int loaded = 0;
            for (int n = 0; n < nodes; n++) {
                if (loads[2 * c][n] != 0 || loads[2 * c + 1][n] != 0) {
                    loaded++;
                }
            }
            return loaded;
        }

        boolean shifts(int node, boolean upward) {
            return kind[node] == FREE || kind[node] == ROLLER && !upward;
        }

        boolean turns(int node) {
            return kind[node] != FIXED;
        }

        /** How many displacements and rotations the supports leave, which is also how many equations there are. */
        int freedoms() {
            int number = 0;
            for (int n = 0; n < nodes; n++) {
                number += (shifts(n, false) ? 1 : 0) + (shifts(n, true) ? 1 : 0) + (turns(n) ? 1 : 0);
            }
            return number;
        }
    }

    /**
     * A basis of all motions, a row each: the twists of the ends, then the shifts. A shift is the displacement that
     * nodes joined by bars in its direction have in common. Rows are integers without a common divisor.
     *
     * No number here is too great: every row that arises vanishes at as many ends as it has basis rows in it less one,
     * so by Cramer's rule its entries are minors. The columns of the shifts are those of a directed graph, whose minors
     * are 0, 1 or -1, and the up to seven columns of turns have 12 entries of at most 4: so shifts and turns are at
     * most 32 * 4^7, the entries below 20,000,000 (UNIT * 3 times as much), and products of two of them far from 2^63.
     */
    private static final class Motions {
        /** Divisible by all lengths, so that the twists of the first basis are integers. */
        private static final int UNIT = 12;
        /** The basis, and behind it the smaller ones of the search for mechanisms: 12 + 11 + .. + 1 rows. */
        private static final int ROWS = 78;

        private final long[][] rows;
        private final int[] group;
        /** The shift of each node to the right and upward, or NONE. */
        private final int[][] shiftOf;
        private int size;
        private int rank;
        private int ends;
        private int shifts;

        Motions() {
            rows = new long[ROWS][ENDS + 2 * NODES];
            group = new int[NODES];
            shiftOf = new int[2][NODES];
        }

        int looseness() {
            return size - rank;
        }

        int width() {
            return ends + shifts;
        }

        void span(Frame frame) {
            size = 0;
            shifts = 0;
            ends = 2 * frame.bars;
            addShifts(frame, false);
            addShifts(frame, true);
            addTurns(frame);
            for (int i = 0; i < size; i++) {
                simplify(rows[i]);
            }
            reduceRows();
        }

        private void addShifts(Frame frame, boolean upward) {
            joinGroups(frame, upward);
            int[] shift = shiftOf[upward ? 1 : 0];
            Arrays.fill(shift, NONE);
            for (int g = 0; g < frame.nodes; g++) {
                if (groupShifts(frame, g, upward)) {
                    for (int n = 0; n < frame.nodes; n++) {
                        shift[n] = group[n] == g ? shifts : shift[n];
                    }
                    addShift(frame, g, upward);
                    shifts++;
                }
            }
        }

        /** Nodes whose displacements in this direction bars keep equal get the same group. */
        private void joinGroups(Frame frame, boolean upward) {
            for (int n = 0; n < frame.nodes; n++) {
                group[n] = n;
            }
            for (int b = 0; b < frame.bars; b++) {
                if (frame.isVertical(b) == upward) {
                    int from = group[frame.second[b]];
                    int to = group[frame.first[b]];
                    for (int n = 0; n < frame.nodes; n++) {
                        group[n] = group[n] == from ? to : group[n];
                    }
                }
            }
        }

        private boolean groupShifts(Frame frame, int g, boolean upward) {
            boolean found = false;
            for (int n = 0; n < frame.nodes; n++) {
                if (group[n] == g) {
                    found = true;
                    if (!frame.shifts(n, upward)) {
                        return false;
                    }
                }
            }
            return found;
        }

        private void addShift(Frame frame, int g, boolean upward) {
            if (size >= ROWS) {
                return;
            }
            long[] row = rows[size++];
            Arrays.fill(row, 0);
            row[ends + shifts] = UNIT;
            for (int b = 0; b < frame.bars; b++) {
                int length = frame.length(b);
                if (frame.isVertical(b) != upward && length > 0) {
                    int atFirst = group[frame.first[b]] == g ? UNIT : 0;
                    int atSecond = group[frame.second[b]] == g ? UNIT : 0;
                    int slope = (upward ? atSecond - atFirst : atFirst - atSecond) / length;
                    row[2 * b] = -slope;
                    row[2 * b + 1] = -slope;
                }
            }
        }

        private void addTurns(Frame frame) {
            for (int n = 0; n < frame.nodes; n++) {
                if (frame.turns(n) && size < ROWS) {
                    long[] row = rows[size++];
                    Arrays.fill(row, 0);
                    for (int b = 0; b < frame.bars; b++) {
                        row[2 * b] = frame.first[b] == n ? UNIT : 0;
                        row[2 * b + 1] = frame.second[b] == n ? UNIT : 0;
                    }
                }
            }
        }

        /** After this each of the first rows has an end of its own, at which all other rows are 0. */
        private void reduceRows() {
            rank = 0;
            for (int end = 0; end < ends && rank < size; end++) {
                int pivot = rowWith(end, rank, size - rank);
                if (pivot >= 0) {
                    swapRows(pivot, rank);
                    for (int i = 0; i < size; i++) {
                        if (i != rank) {
                            cancel(rows[i], rows[rank], end, rows[i]);
                        }
                    }
                    rank++;
                }
            }
        }

        private void swapRows(int one, int other) {
            int width = width();
            for (int k = 0; k < width && one != other; k++) {
                long entry = rows[one][k];
                rows[one][k] = rows[other][k];
                rows[other][k] = entry;
            }
        }

        /** The first of some rows whose twist at the end is not 0, or NONE. */
        int rowWith(int end, int start, int number) {
            for (int i = start; i < start + number; i++) {
                if (rows[i][end] != 0) {
                    return i;
                }
            }
            return NONE;
        }

        /** Puts that combination of two rows into the target which is 0 at the end. */
        void cancel(long[] row, long[] pivot, int end, long[] target) {
            long common = gcd(row[end], pivot[end]);
            if (common == 0) {
                return;
            }
            long ofRow = pivot[end] / common;
            long ofPivot = row[end] / common;
            int width = width();
            for (int k = 0; k < width; k++) {
                target[k] = row[k] * ofRow - pivot[k] * ofPivot;
            }
            simplify(target);
        }

        private void simplify(long[] row) {
            int width = width();
            long common = 0;
            for (int k = 0; k < width && common != 1; k++) {
                common = gcd(common, row[k]);
            }
            if (common > 1) {
                for (int k = 0; k < width; k++) {
                    row[k] /= common;
                }
            }
        }
    }

    /** The mechanisms in ascending order, with their motions. */
    private static final class Mechanisms {
        /**
         * With a space of motions of dimension d, every mechanism is told by d - 1 independent ends that do not twist,
         * so there are at most as many as the greatest binomial coefficient of 12.
         */
        private static final int MOST = 924;

        private final Motions motions;
        private final int[] sets;
        /** The motion of each mechanism in the columns of the rows of Motions; the lowest twist is positive. */
        private final long[][] motionOf;
        private int found;

        Mechanisms() {
            motions = new Motions();
            sets = new int[MOST];
            motionOf = new long[MOST][ENDS + 2 * NODES];
        }

        void find() {
            found = 0;
            if (motions.looseness() == 0) {
                search(motions.ends - 1, 0, motions.size, 0);
            }
        }

        /**
         * Decides for one end after the other, from the highest one down, whether it twists, first that it does not:
         * so the sets come in ascending order. The rows from start on are a basis of the motions that twist at no end
         * decided against; the smaller basis is written behind them. An end decided for must not come out as 0, so that
         * no mechanism is found twice.
         */
        private void search(int end, int start, int size, int twisting) {
            if (size > end + 2 || size < 1 || start + 2 * size - 1 > Motions.ROWS) {
                return;
            }
            if (size == 1) {
                keep(motions.rows[start]);
                return;
            }
            int pivot = motions.rowWith(end, start, size);
            if (pivot < 0) {
                search(end - 1, start, size, twisting);
                return;
            }
            int target = start + size;
            for (int i = start; i < start + size; i++) {
                if (i != pivot) {
                    motions.cancel(motions.rows[i], motions.rows[pivot], end, motions.rows[target]);
                    target++;
                }
            }
            if (allTwist(twisting, start + size, size - 1)) {
                search(end - 1, start + size, size - 1, twisting);
            }
            search(end - 1, start, size, twisting | 1 << end);
        }

        private boolean allTwist(int set, int start, int size) {
            for (int end = 0; end < motions.ends; end++) {
                if ((set >> end & 1) != 0 && motions.rowWith(end, start, size) < 0) {
                    return false;
                }
            }
            return true;
        }

        private void keep(long[] row) {
            if (found >= MOST) {
                return;
            }
            int set = 0;
            for (int end = motions.ends - 1; end >= 0; end--) {
                set = set << 1 | (row[end] != 0 ? 1 : 0);
            }
            int lowest = Integer.numberOfTrailingZeros(set);
            boolean turned = lowest < motions.ends && row[lowest] < 0;
            long[] motion = motionOf[found];
            int width = motions.width();
            for (int k = 0; k < width; k++) {
                motion[k] = turned ? -row[k] : row[k];
            }
            sets[found] = set;
            found++;
        }

        long twistOf(int i, int end) {
            return motionOf[i][end];
        }

        long lowestTwist(int i) {
            int lowest = Integer.numberOfTrailingZeros(sets[i]);
            return lowest < motions.ends ? motionOf[i][lowest] : 1;
        }

        /** How much both ends of a bar twist together. */
        long bend(int i, int bar) {
            return Math.abs(motionOf[i][2 * bar]) + Math.abs(motionOf[i][2 * bar + 1]);
        }

        long workOf(int i, Frame frame, int c) {
            long work = 0;
            for (int way = 0; way < 2; way++) {
                int[] loads = frame.loads[2 * c + way];
                int[] shift = motions.shiftOf[way];
                for (int n = 0; n < frame.nodes; n++) {
                    if (loads[n] != 0 && shift[n] >= 0) {
                        work += loads[n] * motionOf[i][motions.ends + shift[n]];
                    }
                }
            }
            return work;
        }
    }

    /**
     * Weighs the works of the cases against the strains of the mechanisms. By the bounds told at Motions, works stay
     * below 2^29 (14 loads of at most 5, shifts of at most 12 * 2^19), and strains below 2^32 (12 ends, twists below
     * 20,000,000, strengths of at most 13). A limit factor is at most a strain and a work, over a work. So the greatest
     * sum that arises, in findMoments, stays below 2^29 * (2^29 + 2^32 + 2^29 + 2^32) and fits into a long.
     */
    private static final class Balance {
        private final Mechanisms mechanisms;
        private final int[] strength;
        private int bars;
        private final long[][] work;
        private final long[] strain;
        /** The last result: the limits of a case, the bounds of a mechanism, or the extreme moments of an end. */
        private final Fraction greatest;
        private final Fraction least;
        private final Fraction candidate;
        private final Fraction now;
        /** The work of the limit loads is limitOne * work of the case + limitUnit * work of case 0, over limitUnit. */
        private int limitCase;
        private long limitOne;
        private long limitUnit;

        Balance() {
            mechanisms = new Mechanisms();
            strength = new int[BARS];
            work = new long[CASES][Mechanisms.MOST];
            strain = new long[Mechanisms.MOST];
            greatest = new Fraction();
            least = new Fraction();
            candidate = new Fraction();
            now = new Fraction();
        }

        void weigh(Frame frame) {
            bars = frame.bars;
            System.arraycopy(frame.strength, 0, strength, 0, BARS);
            for (int i = 0; i < mechanisms.found; i++) {
                strain[i] = 0;
                for (int b = 0; b < bars; b++) {
                    strain[i] += strength[b] * mechanisms.bend(i, b);
                }
                for (int c = 0; c < CASES; c++) {
                    work[c][i] = mechanisms.workOf(i, frame, c);
                }
            }
        }

        Fraction limit(int side) {
            return side == 0 ? greatest : least;
        }

        /** Numerator and denominator of the greatest value (0, 1) or of the least one (2, 3). */
        long extreme(int what) {
            return limit(what / 2).lowestTerm(what % 2);
        }

        /** Leaves the bounds of a mechanism in greatest and least; false if the work of the case is 0. */
        boolean findBounds(int i, int c) {
            long ofCase = work[c][i];
            long steady = ofCase < 0 ? -work[0][i] : work[0][i];
            greatest.put(strain[i] - steady, Math.abs(ofCase));
            least.put(-strain[i] - steady, Math.abs(ofCase));
            return ofCase != 0;
        }

        /**
         * Which factors a case has if the strength of a bar is greater by extra; if they are bounded, greatest and
         * least hold the limits.
         */
        int range(int c, int bar, int extra) {
            boolean bounded = false;
            for (int i = 0; i < mechanisms.found; i++) {
                long resistance = strain[i] + extra * mechanisms.bend(i, bar);
                long ofCase = Math.abs(work[c][i]);
                long steady = work[c][i] < 0 ? -work[0][i] : work[0][i];
                if (ofCase == 0) {
                    if (Math.abs(steady) > resistance) {
                        return EMPTY;
                    }
                } else {
                    lower(!bounded, resistance - steady, ofCase);
                    raise(!bounded, -resistance - steady, ofCase);
                    bounded = true;
                }
            }
            if (!bounded) {
                return ALL;
            }
            return greatest.isBelow(least) ? EMPTY : BOUNDED;
        }

        private void lower(boolean surely, long numerator, long denominator) {
            candidate.put(numerator, denominator);
            if (surely || candidate.isBelow(greatest)) {
                greatest.copyFrom(candidate);
            }
        }

        private void raise(boolean surely, long numerator, long denominator) {
            candidate.put(numerator, denominator);
            if (surely || least.isBelow(candidate)) {
                least.copyFrom(candidate);
            }
        }

        boolean carries(int one, int other, int q) {
            for (int i = 0; i < mechanisms.found; i++) {
                long total = work[0][i] * q + work[1][i] * one + work[2][i] * other;
                if (Math.abs(total) > strain[i] * q) {
                    return false;
                }
            }
            return true;
        }

        /** The limits of the case must stand in greatest and least. */
        void takeLimitLoads(int c, int side) {
            limitCase = c;
            limitOne = limit(side).lowestTerm(0);
            limitUnit = limit(side).lowestTerm(1);
        }

        private long limitWork(int i) {
            return work[0][i] * limitUnit + work[limitCase][i] * limitOne;
        }

        /**
         * Leaves the extreme moments of an end under the limit loads in greatest and least. A moment is possible
         * exactly if the frame still bears all when the end is a joint at which this moment acts; and all mechanisms
         * of that frame come from mechanisms of this one.
         */
        void findMoments(int end) {
            int most = strength[end / 2];
            greatest.put(most, 1);
            least.put(-most, 1);
            for (int i = 0; i < mechanisms.found; i++) {
                long twist = mechanisms.twistOf(i, end);
                if (twist != 0) {
                    long size = Math.abs(twist);
                    long others = (strain[i] - most * size) * limitUnit;
                    long total = twist < 0 ? -limitWork(i) : limitWork(i);
                    lower(false, total + others, size * limitUnit);
                    raise(false, total - others, size * limitUnit);
                }
            }
        }

        int yieldingEnds() {
            int set = 0;
            for (int end = 0; end < 2 * bars; end++) {
                findMoments(end);
                int most = strength[end / 2];
                if (least.isWhole(most) || greatest.isWhole(-most)) {
                    set |= 1 << end;
                }
            }
            return set;
        }

        private boolean isCritical(int i) {
            return Math.abs(limitWork(i)) == strain[i] * limitUnit;
        }

        int criticalCount() {
            int number = 0;
            for (int i = 0; i < mechanisms.found; i++) {
                number += isCritical(i) ? 1 : 0;
            }
            return number;
        }

        int lowestCritical() {
            for (int i = 0; i < mechanisms.found; i++) {
                if (isCritical(i)) {
                    return i;
                }
            }
            return NONE;
        }

        /** The greatest factor of the case must stand in greatest; less strength never makes it greater. */
        int spareStrength(int c, int bar) {
            now.copyFrom(greatest);
            for (int n = strength[bar] - 1; n > 0; n--) {
                if (range(c, bar, -n) == BOUNDED && greatest.isSame(now)) {
                    return n;
                }
            }
            return 0;
        }

        /** The greatest factor of the case must stand in greatest. */
        int weakestBar(int c) {
            int weakest = NONE;
            now.copyFrom(greatest);
            for (int b = 0; b < bars; b++) {
                if (range(c, b, 1) == BOUNDED && now.isBelow(greatest)) {
                    now.copyFrom(greatest);
                    weakest = b;
                }
            }
            return weakest;
        }
    }
}
