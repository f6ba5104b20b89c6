import java.util.ArrayList;
import java.util.List;

/**
 * A second, slow way to all answers, straight from the words of the document: motions by their conditions on u, v and
 * t, mechanisms by looking at every set of ends, factors and moments by linear programs over EQUILIBRIUM.
 */
final class Oracle {
    final int nodes;
    final int bars;
    final int ends;
    final int[][] node;
    final int[][] bar;
    /** A basis of the motions, and the twists of each of them. */
    final List<Ratio[]> motions;
    final List<Ratio[]> twists;

    Oracle(FrameCollapse frame) {
        this(rowsOf(frame, true), rowsOf(frame, false));
    }

    /** Rows as ofNode and ofBar tell them. */
    Oracle(int[][] nodeRows, int[][] barRows) {
        nodes = nodeRows.length;
        bars = barRows.length;
        ends = 2 * bars;
        node = copyOf(nodeRows);
        bar = copyOf(barRows);
        motions = kernel(conditions(), 3 * nodes);
        twists = new ArrayList<>();
        for (Ratio[] motion : motions) {
            twists.add(twistsOf(motion));
        }
    }

    private static int[][] rowsOf(FrameCollapse frame, boolean ofNodes) {
        int[][] rows = ofNodes ? new int[frame.count(0)][9] : new int[frame.count(1)][5];
        for (int i = 0; i < rows.length; i++) {
            for (int k = 0; k < rows[i].length; k++) {
                rows[i][k] = ofNodes ? frame.ofNode(i, k) : frame.ofBar(i, k);
            }
        }
        return rows;
    }

    private static int[][] copyOf(int[][] rows) {
        int[][] copy = new int[rows.length][];
        for (int i = 0; i < rows.length; i++) {
            copy[i] = rows[i].clone();
        }
        return copy;
    }

    // ---- linear algebra

    static Ratio[] zeros(int width) {
        Ratio[] row = new Ratio[width];
        java.util.Arrays.fill(row, Ratio.ZERO);
        return row;
    }

    /** Brings copies of the rows to reduced echelon form; answers the rows that are not 0. */
    static List<Ratio[]> echelon(List<Ratio[]> given, int width) {
        List<Ratio[]> rows = new ArrayList<>();
        for (Ratio[] row : given) {
            rows.add(row.clone());
        }
        int rank = 0;
        for (int k = 0; k < width && rank < rows.size(); k++) {
            int pivot = rank;
            while (pivot < rows.size() && rows.get(pivot)[k].isZero()) {
                pivot++;
            }
            if (pivot == rows.size()) {
                continue;
            }
            Ratio[] row = rows.get(pivot);
            rows.set(pivot, rows.get(rank));
            rows.set(rank, row);
            Ratio by = row[k];
            for (int j = 0; j < width; j++) {
                row[j] = row[j].over(by);
            }
            for (int i = 0; i < rows.size(); i++) {
                Ratio times = rows.get(i)[k];
                if (i != rank && !times.isZero()) {
                    for (int j = 0; j < width; j++) {
                        rows.get(i)[j] = rows.get(i)[j].minus(times.times(row[j]));
                    }
                }
            }
            rank++;
        }
        return new ArrayList<>(rows.subList(0, rank));
    }

    static List<Ratio[]> kernel(List<Ratio[]> conditions, int width) {
        List<Ratio[]> rows = echelon(conditions, width);
        int[] lead = new int[rows.size()];
        boolean[] leads = new boolean[width];
        for (int i = 0; i < rows.size(); i++) {
            while (rows.get(i)[lead[i]].isZero()) {
                lead[i]++;
            }
            leads[lead[i]] = true;
        }
        List<Ratio[]> basis = new ArrayList<>();
        for (int k = 0; k < width; k++) {
            if (!leads[k]) {
                Ratio[] vector = zeros(width);
                vector[k] = Ratio.ONE;
                for (int i = 0; i < rows.size(); i++) {
                    vector[lead[i]] = rows.get(i)[k].negated();
                }
                basis.add(vector);
            }
        }
        return basis;
    }

    // ---- motions; variable 3 * n is u, 3 * n + 1 is v and 3 * n + 2 is t of node n

    private List<Ratio[]> conditions() {
        List<Ratio[]> rows = new ArrayList<>();
        for (int n = 0; n < nodes; n++) {
            int kind = node[n][2];
            for (int k = 0; k < 3; k++) {
                boolean zero = kind == 2 || kind == 1 && k < 2 || kind == 3 && k == 1;
                if (zero) {
                    Ratio[] row = zeros(3 * nodes);
                    row[3 * n + k] = Ratio.ONE;
                    rows.add(row);
                }
            }
        }
        for (int[] b : bar) {
            Ratio[] row = zeros(3 * nodes);
            row[3 * b[0] + b[3]] = Ratio.ONE;
            row[3 * b[1] + b[3]] = Ratio.of(-1);
            rows.add(row);
        }
        return rows;
    }

    private Ratio[] twistsOf(Ratio[] motion) {
        Ratio[] twist = new Ratio[ends];
        for (int e = 0; e < ends; e++) {
            int[] b = bar[e / 2];
            Ratio difference = b[3] == 0
                ? motion[3 * b[1] + 1].minus(motion[3 * b[0] + 1])
                : motion[3 * b[0]].minus(motion[3 * b[1]]);
            twist[e] = motion[3 * b[e % 2] + 2].minus(difference.over(Ratio.of(b[2])));
        }
        return twist;
    }

    int looseness() {
        return motions.size() - echelon(twists, ends).size();
    }

    // ---- mechanisms

    /** For each mechanism, in ascending order, its motion. The frame must not be loose. */
    List<Ratio[]> mechanismMotions(List<Integer> sets) {
        List<Ratio[]> found = new ArrayList<>();
        long[][] residues = residues();
        for (int set = 1; set < 1 << ends; set++) {
            if (motions.size() - rankOutside(residues, set) == 1) {
                Ratio[] motion = motionWithin(set);
                if (motion != null) {
                    sets.add(set);
                    found.add(motion);
                }
            }
        }
        return found;
    }

    private static final long PRIME = 2147483647L;

    /** Ranks are first looked at modulo a prime, which is quick; motionWithin makes sure of them. */
    private long[][] residues() {
        long[][] rows = new long[twists.size()][ends];
        for (int i = 0; i < rows.length; i++) {
            for (int e = 0; e < ends; e++) {
                Ratio value = twists.get(i)[e];
                long top = Math.floorMod(value.top.longValueExact(), PRIME);
                rows[i][e] = top * power(value.bottom.longValueExact() % PRIME, PRIME - 2) % PRIME;
            }
        }
        return rows;
    }

    private static long power(long base, long exponent) {
        long result = 1;
        for (long e = exponent; e > 0; e >>= 1) {
            if ((e & 1) == 1) {
                result = result * base % PRIME;
            }
            base = base * base % PRIME;
        }
        return result;
    }

    private int rankOutside(long[][] residues, int set) {
        long[][] rows = new long[residues.length][];
        for (int i = 0; i < rows.length; i++) {
            rows[i] = residues[i].clone();
        }
        int rank = 0;
        for (int e = 0; e < ends && rank < rows.length; e++) {
            if ((set >> e & 1) == 1) {
                continue;
            }
            int pivot = rank;
            while (pivot < rows.length && rows[pivot][e] == 0) {
                pivot++;
            }
            if (pivot == rows.length) {
                continue;
            }
            long[] row = rows[pivot];
            rows[pivot] = rows[rank];
            rows[rank] = row;
            long inverse = power(row[e], PRIME - 2);
            for (int i = rank + 1; i < rows.length; i++) {
                long times = rows[i][e] * inverse % PRIME;
                for (int k = 0; times != 0 && k < ends; k++) {
                    rows[i][k] = Math.floorMod(rows[i][k] - times * row[k] % PRIME, PRIME);
                }
            }
            rank++;
        }
        return rank;
    }

    /** The motion that twists no end outside the set, if there is but one and it twists all ends of the set. */
    private Ratio[] motionWithin(int set) {
        List<Ratio[]> rows = new ArrayList<>();
        for (int e = 0; e < ends; e++) {
            if ((set >> e & 1) == 0) {
                Ratio[] row = new Ratio[motions.size()];
                for (int i = 0; i < row.length; i++) {
                    row[i] = twists.get(i)[e];
                }
                rows.add(row);
            }
        }
        List<Ratio[]> solutions = kernel(rows, motions.size());
        if (solutions.size() != 1) {
            return null;
        }
        Ratio[] motion = zeros(3 * nodes);
        for (int i = 0; i < motions.size(); i++) {
            for (int k = 0; k < motion.length; k++) {
                motion[k] = motion[k].plus(solutions.get(0)[i].times(motions.get(i)[k]));
            }
        }
        Ratio[] twist = twistsOf(motion);
        for (int e = 0; e < ends; e++) {
            if ((set >> e & 1) == 1 && twist[e].isZero()) {
                return null;
            }
        }
        return motion;
    }

    Ratio[] twistsIn(Ratio[] motion) {
        return twistsOf(motion);
    }

    Ratio strain(Ratio[] motion) {
        Ratio sum = Ratio.ZERO;
        Ratio[] twist = twistsOf(motion);
        for (int e = 0; e < ends; e++) {
            sum = sum.plus(twist[e].size().times(Ratio.of(bar[e / 2][4])));
        }
        return sum;
    }

    Ratio work(Ratio[] motion, int c) {
        Ratio sum = Ratio.ZERO;
        for (int n = 0; n < nodes; n++) {
            sum = sum.plus(motion[3 * n].times(Ratio.of(node[n][3 + 2 * c])));
            sum = sum.plus(motion[3 * n + 1].times(Ratio.of(node[n][4 + 2 * c])));
        }
        return sum;
    }

    // ---- equilibrium
    // columns: moments + strength (ends), what is missing to twice the strength (ends), axial forces and the factor,
    // each as a difference of two (2 * bars + 2), then the right side

    private static final int WAYS = 2;

    private int columns() {
        return 2 * ends + WAYS * bars + WAYS;
    }

    private void addMoment(Ratio[] row, int end, Ratio times) {
        int right = columns();
        row[end] = row[end].plus(times);
        // the moment is the column minus the strength
        row[right] = row[right].plus(times.times(Ratio.of(bar[end / 2][4])));
    }

    private void addShear(Ratio[] row, int b, int sign) {
        Ratio times = Ratio.of(sign, bar[b][2]);
        addMoment(row, 2 * b, times);
        addMoment(row, 2 * b + 1, times);
    }

    private void addAxial(Ratio[] row, int b, int sign) {
        int at = 2 * ends + WAYS * b;
        row[at] = row[at].plus(Ratio.of(sign));
        row[at + 1] = row[at + 1].minus(Ratio.of(sign));
    }

    /** The load is a fixed part plus the factor times a part of the case. */
    private void addLoad(Ratio[] row, Ratio fixed, Ratio perFactor) {
        int at = 2 * ends + WAYS * bars;
        row[at] = row[at].plus(perFactor);
        row[at + 1] = row[at + 1].minus(perFactor);
        row[columns()] = row[columns()].minus(fixed);
    }

    /** The program for the sum of shares[c] times case c, plus a free factor times a case if factored is not 0. */
    private Simplex program(Ratio[] shares, int factored) {
        Simplex program = new Simplex(columns());
        for (Ratio[] equation : equations(shares, factored)) {
            program.add(equation);
        }
        for (int e = 0; e < ends; e++) {
            Ratio[] row = zeros(columns() + 1);
            row[e] = Ratio.ONE;
            row[ends + e] = Ratio.ONE;
            row[columns()] = Ratio.of(2 * bar[e / 2][4]);
            program.add(row);
        }
        return program;
    }

    private List<Ratio[]> equations(Ratio[] shares, int factored) {
        List<Ratio[]> rows = new ArrayList<>();
        for (int n = 0; n < nodes; n++) {
            int kind = node[n][2];
            for (int way = 0; way < 2; way++) {
                if (kind == 0 || kind == 3 && way == 0) {
                    rows.add(shiftEquation(n, way, shares, factored));
                }
            }
            if (kind != 2) {
                Ratio[] row = zeros(columns() + 1);
                for (int e = 0; e < ends; e++) {
                    if (bar[e / 2][e % 2] == n) {
                        addMoment(row, e, Ratio.ONE);
                    }
                }
                rows.add(row);
            }
        }
        return rows;
    }

    private Ratio[] shiftEquation(int n, int way, Ratio[] shares, int factored) {
        Ratio[] row = zeros(columns() + 1);
        Ratio fixed = Ratio.ZERO;
        for (int c = 0; c < 3; c++) {
            fixed = fixed.plus(shares[c].times(Ratio.of(node[n][3 + 2 * c + way])));
        }
        addLoad(row, fixed, factored == 0 ? Ratio.ZERO : Ratio.of(node[n][3 + 2 * factored + way]));
        for (int b = 0; b < bars; b++) {
            boolean along = bar[b][3] == way;
            int atFirst = bar[b][0] == n ? 1 : 0;
            int atSecond = bar[b][1] == n ? 1 : 0;
            if (along) {
                addAxial(row, b, atFirst - atSecond);
            } else if (way == 0) {
                addShear(row, b, atFirst - atSecond);
            } else {
                addShear(row, b, atSecond - atFirst);
            }
        }
        return row;
    }

    /** The dimension of the moments and axial forces in equilibrium with no loads. */
    int selfStresses() {
        List<Ratio[]> rows = new ArrayList<>();
        for (Ratio[] equation : equations(steady(), 0)) {
            Ratio[] row = zeros(3 * bars);
            System.arraycopy(equation, 0, row, 0, ends);
            for (int b = 0; b < bars; b++) {
                row[ends + b] = equation[2 * ends + WAYS * b];
            }
            rows.add(row);
        }
        return 3 * bars - echelon(rows, 3 * bars).size();
    }

    private static Ratio[] steady() {
        return new Ratio[] {Ratio.ONE, Ratio.ZERO, Ratio.ZERO};
    }

    boolean bears(int one, int other, int q) {
        return program(new Ratio[] {Ratio.ONE, Ratio.of(one, q), Ratio.of(other, q)}, 0).start();
    }

    /** 0, 1 or 2, as limits tells it; limits[0] and limits[1] are then the limit factors. */
    int factors(int c, Ratio[] limits) {
        Simplex program = program(steady(), c);
        if (!program.start()) {
            return 2;
        }
        Ratio[] cost = zeros(columns());
        cost[columns() - 2] = Ratio.ONE;
        cost[columns() - 1] = Ratio.of(-1);
        limits[0] = program.greatest(cost);
        if (limits[0] == null) {
            return 1;
        }
        cost[columns() - 2] = Ratio.of(-1);
        cost[columns() - 1] = Ratio.ONE;
        limits[1] = program.greatest(cost).negated();
        return 0;
    }

    /** The greatest and the least moment of each end under case 0 and the factor times the case: 2 * e, 2 * e + 1. */
    Ratio[] moments(int c, Ratio factor) {
        Ratio[] shares = steady();
        shares[c] = factor;
        Simplex program = program(shares, 0);
        if (!program.start()) {
            throw new IllegalStateException("the limit loads are not borne");
        }
        Ratio[] answer = new Ratio[2 * ends];
        for (int e = 0; e < ends; e++) {
            Ratio strength = Ratio.of(bar[e / 2][4]);
            Ratio[] cost = zeros(columns());
            cost[e] = Ratio.ONE;
            answer[2 * e] = program.greatest(cost).minus(strength);
            cost[e] = Ratio.of(-1);
            answer[2 * e + 1] = program.greatest(cost).negated().minus(strength);
        }
        return answer;
    }
}
