import java.util.HashSet;
import java.util.Set;

/** Promises 38 and 39: the cubes. */
public final class CubeTest {
    public static void main(String[] args) {
        SquareWorkshop x = new SquareWorkshop();
        checkNumbers(x, 3);
        checkNumbers(x, 5);
        Check.due("promise 38: layer, row and column are told in this order", "8 15 19 12 1 2",
                () -> x.cubeAt(3, 0, 0, 0) + " " + x.cubeAt(3, 0, 0, 1) + " " + x.cubeAt(3, 0, 0, 2) + " "
                        + x.cubeAt(3, 1, 0, 0) + " " + x.cubeAt(3, 0, 1, 1) + " " + x.cubeAt(3, 2, 0, 1));
        for (int size : new int[] {-3, 0, 1, 2, 4, 6, 7, Integer.MIN_VALUE, Integer.MAX_VALUE}) {
            Check.argument("promise 38: the size " + size, () -> x.cubeAt(size, 0, 0, 0));
            Check.argument("promise 38: the first of two exceptions", () -> x.cubeAt(size, -1, 0, 0));
            Check.argument("promise 39: the size " + size, () -> x.cubeErrors(size));
        }
        for (int size = 3; size <= 5; size += 2) {
            int n = size;
            for (int each : new int[] {-1, n, Integer.MIN_VALUE, Integer.MAX_VALUE}) {
                Check.index("promise 38: the layer " + each, () -> x.cubeAt(n, each, 0, 0));
                Check.index("promise 38: the row " + each, () -> x.cubeAt(n, 0, each, 0));
                Check.index("promise 38: the column " + each, () -> x.cubeAt(n, 0, 0, each));
            }
            Check.due("promise 39: no errors of the size " + n, 0, () -> x.cubeErrors(n));
            Check.due("promise 39: once more", 0, () -> x.cubeErrors(n));
        }
        Check.finish();
    }

    private static void checkNumbers(SquareWorkshop x, int n) {
        Set<Object> all = new HashSet<>();
        for (int i = 1; i <= n; i++) {
            for (int j = 1; j <= n; j++) {
                for (int k = 1; k <= n; k++) {
                    int layer = i - 1;
                    int row = j - 1;
                    int column = k - 1;
                    int want = n * n * ((i - j + k - 1 + 3 * n) % n) + n * ((i - j - k + 3 * n) % n)
                            + (i + j + k - 2) % n + 1;
                    Check.due("promise 38: the cube " + n, want, () -> x.cubeAt(n, layer, row, column));
                    all.add(x.cubeAt(n, layer, row, column));
                }
            }
        }
        Check.due("promise 39: all numbers of the cube " + n, n * n * n, all::size);
    }
}
