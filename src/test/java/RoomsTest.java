import java.math.BigInteger;

/** Promise 29: the dimensions, against the rank of the rules, in fractions without rounding. */
public final class RoomsTest {
    public static void main(String[] args) {
        SquareWorkshop x = new SquareWorkshop();
        for (int size = -1; size <= 8; size++) {
            for (int what = -1; what <= 8; what++) {
                int s = size;
                int w = what;
                String name = "promise 29: size " + size + ", property " + what;
                if (size >= 1 && size <= 6 && what >= SquareWorkshop.HALF && what <= SquareWorkshop.LIKE) {
                    Check.due(name, size * size - rank(rules(size, what)), () -> x.dimension(s, w));
                } else {
                    Check.argument(name, () -> x.dimension(s, w));
                }
            }
        }
        Check.unchanged("promise 29: it", x, "0", 0);
        Check.finish();
    }

    /** A rule is a row of factors of the cells, whose sum must be 0. */
    static BigInteger[][] rules(int n, int what) {
        long[][] sums = what == SquareWorkshop.LIKE ? pairs(n) : lines(n, what);
        BigInteger[][] rules = new BigInteger[sums.length][n * n];
        for (int rule = 0; rule < sums.length; rule++) {
            for (int cell = 0; cell < n * n; cell++) {
                rules[rule][cell] = BigInteger.valueOf(sums[rule][cell] - sums[0][cell]);
            }
        }
        return rules;
    }

    private static long[][] pairs(int n) {
        long[][] sums = new long[n * n][n * n];
        for (int r = 0; r < n; r++) {
            for (int c = 0; c < n; c++) {
                sums[r * n + c][r * n + c]++;
                sums[r * n + c][(n - 1 - r) * n + n - 1 - c]++;
            }
        }
        return sums;
    }

    private static long[][] lines(int n, int what) {
        long[][] sums = new long[4 * n][n * n];
        for (int line = 0; line < n; line++) {
            for (int step = 0; step < n; step++) {
                sums[line][line * n + step]++;
                sums[n + line][step * n + line]++;
                boolean down = what == SquareWorkshop.ALL || what == SquareWorkshop.CONSTANT && line == 0;
                boolean up = what == SquareWorkshop.ALL || what == SquareWorkshop.CONSTANT && line == n - 1;
                // A line that is not asked for stands as the ROW 0 once more, and adds no rule.
                sums[2 * n + line][down ? step * n + (line + step) % n : step]++;
                sums[3 * n + line][up ? step * n + (line - step + n) % n : step]++;
            }
        }
        return sums;
    }

    static int rank(BigInteger[][] rows) {
        int rank = 0;
        for (int column = 0; column < rows[0].length; column++) {
            int pivot = rank;
            while (pivot < rows.length && rows[pivot][column].signum() == 0) {
                pivot++;
            }
            if (pivot < rows.length) {
                BigInteger[] kept = rows[pivot];
                rows[pivot] = rows[rank];
                rows[rank] = kept;
                for (int row = rank + 1; row < rows.length; row++) {
                    BigInteger factor = rows[row][column];
                    for (int each = 0; each < rows[row].length; each++) {
                        rows[row][each] = rows[row][each].multiply(kept[column]).subtract(kept[each].multiply(factor));
                    }
                }
                rank++;
            }
        }
        return rank;
    }
}
