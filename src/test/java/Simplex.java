import java.util.ArrayList;
import java.util.List;

/** Exact linear programs: variables at least 0, equations, Bland's rule. Plain and slow, for the oracle. */
final class Simplex {
    private final int variables;
    private final List<Ratio[]> equations = new ArrayList<>();
    private Ratio[][] table;
    private int[] basis;

    Simplex(int variables) {
        this.variables = variables;
    }

    /** The coefficients of the variables, then the right side. */
    void add(Ratio[] equation) {
        equations.add(equation);
    }

    /** Finds some solution; false if there is none. Rows that depend on others are dropped. */
    boolean start() {
        int rows = equations.size();
        int width = variables + rows + 1;
        table = new Ratio[rows][width];
        basis = new int[rows];
        for (int i = 0; i < rows; i++) {
            Ratio[] given = equations.get(i);
            boolean turn = given[variables].sign() < 0;
            for (int k = 0; k < width; k++) {
                table[i][k] = Ratio.ZERO;
            }
            for (int k = 0; k < variables; k++) {
                table[i][k] = turn ? given[k].negated() : given[k];
            }
            table[i][width - 1] = turn ? given[variables].negated() : given[variables];
            table[i][variables + i] = Ratio.ONE;
            basis[i] = variables + i;
        }
        Ratio[] cost = new Ratio[width - 1];
        for (int k = 0; k < width - 1; k++) {
            cost[k] = k < variables ? Ratio.ZERO : Ratio.of(-1);
        }
        Ratio best = climb(cost, variables + rows);
        if (best == null || !best.isZero()) {
            return false;
        }
        dropHelpers();
        return true;
    }

    private void dropHelpers() {
        List<Ratio[]> rows = new ArrayList<>();
        List<Integer> kept = new ArrayList<>();
        for (int i = 0; i < table.length; i++) {
            if (basis[i] >= variables) {
                for (int k = 0; k < variables; k++) {
                    if (!table[i][k].isZero()) {
                        pivot(i, k);
                        break;
                    }
                }
            }
        }
        for (int i = 0; i < table.length; i++) {
            if (basis[i] < variables) {
                Ratio[] row = new Ratio[variables + 1];
                System.arraycopy(table[i], 0, row, 0, variables);
                row[variables] = table[i][table[i].length - 1];
                rows.add(row);
                kept.add(basis[i]);
            }
        }
        table = rows.toArray(new Ratio[0][]);
        basis = new int[kept.size()];
        for (int i = 0; i < basis.length; i++) {
            basis[i] = kept.get(i);
        }
    }

    /** After start: the greatest value of the sum, or null if there is none. */
    Ratio greatest(Ratio[] cost) {
        return climb(cost, variables);
    }

    private Ratio climb(Ratio[] cost, int columns) {
        while (true) {
            int entering = -1;
            for (int k = 0; k < columns && entering < 0; k++) {
                Ratio gain = cost[k];
                for (int i = 0; i < table.length; i++) {
                    if (!table[i][k].isZero() && !cost[basis[i]].isZero()) {
                        gain = gain.minus(cost[basis[i]].times(table[i][k]));
                    }
                }
                if (gain.sign() > 0) {
                    entering = k;
                }
            }
            if (entering < 0) {
                Ratio value = Ratio.ZERO;
                for (int i = 0; i < table.length; i++) {
                    value = value.plus(cost[basis[i]].times(table[i][table[i].length - 1]));
                }
                return value;
            }
            int leaving = leavingRow(entering);
            if (leaving < 0) {
                return null;
            }
            pivot(leaving, entering);
        }
    }

    private int leavingRow(int entering) {
        int leaving = -1;
        Ratio least = null;
        for (int i = 0; i < table.length; i++) {
            if (table[i][entering].sign() > 0) {
                Ratio step = table[i][table[i].length - 1].over(table[i][entering]);
                int order = least == null ? -1 : step.compareTo(least);
                if (order < 0 || order == 0 && basis[i] < basis[leaving]) {
                    least = step;
                    leaving = i;
                }
            }
        }
        return leaving;
    }

    private void pivot(int row, int column) {
        Ratio by = table[row][column];
        for (int k = 0; k < table[row].length; k++) {
            if (!table[row][k].isZero()) {
                table[row][k] = table[row][k].over(by);
            }
        }
        for (int i = 0; i < table.length; i++) {
            if (i != row && !table[i][column].isZero()) {
                Ratio times = table[i][column];
                for (int k = 0; k < table[i].length; k++) {
                    if (!table[row][k].isZero()) {
                        table[i][k] = table[i][k].minus(times.times(table[row][k]));
                    }
                }
            }
        }
        basis[row] = column;
    }
}
