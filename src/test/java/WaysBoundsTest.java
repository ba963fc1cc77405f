/** The bounds of section 4 and of promises 16, 17, 29, 38 and 39: the sizes of each way, and what goes round in it. */
public final class WaysBoundsTest {
    private static final int[][] SIZES = {{1, 3, 5, 7, 9, 11}, {4, 8, 12}, {6, 10}, {5, 7, 11}};
    private static final Twin.Way AS_IT_IS = x -> { };

    public static void main(String[] args) {
        checkSizesOfWays();
        checkOdd();
        checkCross();
        checkPairs();
        checkLatin();
        checkSizesOfProducts();
        checkNumbersOfProducts();
        checkRooms();
        checkCubes();
        checkThatNothingChanges();
        Check.finish();
    }

    private static SquareWorkshop made(int way, int n) {
        SquareWorkshop x = new SquareWorkshop();
        x.make(way, n);
        return x;
    }

    private static void cell(String what, int want, SquareWorkshop x, int row, int column) {
        Check.due("promise 16: " + what + " " + row + " " + column, want, () -> x.at(row, column));
    }

    private static void checkSizesOfWays() {
        for (int way = -1; way <= 4; way++) {
            for (int size = -1; size <= 15; size++) {
                boolean suits = false;
                for (int each = 0; way >= 0 && way < 4 && each < SIZES[way].length; each++) {
                    suits |= SIZES[way][each] == size;
                }
                int w = way;
                int n = size;
                String name = "promise 16: the way " + way + ", the size " + size;
                SquareWorkshop x = Check.with("7");
                if (suits) {
                    Check.due(name, n * (n * n + 1) / 2, () -> x.make(w, n));
                    Check.due(name + " has this size", n, x::size);
                    Check.due(name + " is a change", 1, x::undo);
                } else {
                    Check.argument(name, () -> x.make(w, n));
                    Check.due(name + " leaves the size", 1, x::size);
                    Check.due(name + " is no change", 0, x::undo);
                }
            }
        }
    }

    /** Each number above 1 stands where the one ahead of it sends it, over the edges too. */
    private static void checkOdd() {
        for (int n : SIZES[SquareWorkshop.ODD]) {
            SquareWorkshop x = made(SquareWorkshop.ODD, n);
            int[] rows = new int[n * n + 2];
            int[] columns = new int[n * n + 2];
            boolean[] seen = new boolean[n * n + 2];
            for (int each = 0; each < n * n; each++) {
                int number = x.at(each / n, each % n);
                rows[number] = each / n;
                columns[number] = each % n;
                seen[number] = true;
            }
            cell("ODD, 1 stands in the middle of the row 0 of " + n, 1, x, 0, n / 2);
            for (int number = 2; number <= n * n; number++) {
                int ahead = number - 1;
                int up = rows[ahead] == 0 ? n - 1 : rows[ahead] - 1;
                int right = columns[ahead] == n - 1 ? 0 : columns[ahead] + 1;
                boolean isTaken = x.at(up, right) < number;
                int below = rows[ahead] == n - 1 ? 0 : rows[ahead] + 1;
                boolean has = seen[number];
                Check.due("promise 16: ODD of " + n + " has " + number, true, () -> has);
                cell("ODD of " + n, number, x, isTaken ? below : up, isTaken ? columns[ahead] : right);
            }
        }
        SquareWorkshop five = made(SquareWorkshop.ODD, 5);
        cell("ODD, from the row 0 on to the last row", 2, five, 4, 3);
        cell("ODD, from the last column on to the column 0", 4, five, 2, 0);
        cell("ODD, below, as 1 stands above to the right", 6, five, 2, 1);
        cell("ODD, below, from the corner", 16, five, 1, 4);
    }

    private static void checkCross() {
        for (int n : SIZES[SquareWorkshop.CROSS]) {
            SquareWorkshop x = made(SquareWorkshop.CROSS, n);
            for (int r = 0; r < n; r++) {
                for (int c = 0; c < n; c++) {
                    boolean isCrossed = r % 4 == c % 4 || r % 4 + c % 4 == 3;
                    int plain = n * r + c + 1;
                    cell("CROSS of " + n, isCrossed ? n * n + 1 - plain : plain, x, r, c);
                }
            }
            cell("CROSS, the first cell", n * n, x, 0, 0);
            cell("CROSS, the last cell", 1, x, n - 1, n - 1);
            cell("CROSS, the end of the row 0", n * n + 1 - n, x, 0, n - 1);
            cell("CROSS, beside the first cell", 2, x, 0, 1);
        }
        cell("CROSS, the pattern goes on behind four columns", 60, made(SquareWorkshop.CROSS, 8), 0, 4);
    }

    /** The signs of all cells of the ODD square, for both sizes. */
    private static void checkPairs() {
        String[][] signs = {{"LLL", "LUL", "ULU"}, {"LLLLL", "LLLLL", "LLULL", "UULUU", "XXXXX"}};
        for (int which = 0; which < 2; which++) {
            int n = SIZES[SquareWorkshop.PAIRS][which];
            SquareWorkshop x = made(SquareWorkshop.PAIRS, n);
            SquareWorkshop odd = made(SquareWorkshop.ODD, n / 2);
            for (int r = 0; r < n / 2; r++) {
                for (int c = 0; c < n / 2; c++) {
                    int least = 4 * (odd.at(r, c) - 1);
                    char sign = signs[which][r].charAt(c);
                    String order = sign == 'L' ? "4123" : sign == 'U' ? "1423" : "1432";
                    String name = "PAIRS of " + n + ", the sign " + sign;
                    cell(name, least + order.charAt(0) - '0', x, 2 * r, 2 * c);
                    cell(name, least + order.charAt(1) - '0', x, 2 * r, 2 * c + 1);
                    cell(name, least + order.charAt(2) - '0', x, 2 * r + 1, 2 * c);
                    cell(name, least + order.charAt(3) - '0', x, 2 * r + 1, 2 * c + 1);
                }
            }
        }
    }

    private static void checkLatin() {
        for (int n : SIZES[SquareWorkshop.LATIN]) {
            SquareWorkshop x = made(SquareWorkshop.LATIN, n);
            for (int r = 0; r < n; r++) {
                for (int c = 0; c < n; c++) {
                    int high = r + 2 * c;
                    int low = 2 * r + c;
                    while (high >= n) {
                        high -= n;
                    }
                    while (low >= n) {
                        low -= n;
                    }
                    cell("LATIN of " + n, n * high + low + 1, x, r, c);
                }
            }
        }
    }

    /** The square n * r + c of a size, whose numbers begin at 0. */
    private static SquareWorkshop counting(int n) {
        SquareWorkshop x = new SquareWorkshop();
        x.begin(n);
        for (int each = 0; each < n * n; each++) {
            x.set(each / n, each % n, each);
        }
        return x;
    }

    private static void checkSizesOfProducts() {
        for (int size = 1; size <= 12; size++) {
            for (int other = 1; other <= 12; other++) {
                int a = size;
                int b = other;
                SquareWorkshop x = counting(b);
                x.keep(5);
                x.begin(a);
                x.set(a - 1, a - 1, 2);
                String name = "promise 17: the sizes " + a + " and " + b;
                if (a * b > 12) {
                    Check.state(name, () -> x.multiply(5));
                    Check.due(name + ": the size stays", a, x::size);
                } else {
                    Check.due(name, a * b, () -> x.multiply(5));
                    Check.due(name + ": the size then", a * b, x::size);
                    int last = a * b - 1;
                    int least = a == 1 ? b * b : -b * b;
                    Check.due(name + ": the first number", least, () -> x.at(0, 0));
                    Check.due(name + ": the last number", b * b + b * b - 1, () -> x.at(last, last));
                    Check.due(name + ": the end of the first block", least + b * b - 1, () -> x.at(b - 1, b - 1));
                    Check.due(name + ": the row and the column of the other one", least + (b - 1) * b,
                            () -> x.at(b - 1, 0));
                }
            }
        }
        SquareWorkshop x = Check.with("1 2;3 4");
        x.keep(0);
        Check.due("promise 17: by itself", 4, () -> x.multiply(0));
        Check.due("promise 17: its numbers", "1 2 5 6;3 4 7 8;9 10 13 14;11 12 15 16", () -> Check.square(x));
        x.take(0);
        Check.due("promise 17: the drawer stays", "1 2;3 4", () -> Check.square(x));
    }

    /** Each pair, the one in the drawer first, makes the greatest or the least number that is in range. */
    private static void checkNumbersOfProducts() {
        String[][] pairs = {
            {"1000000", "1", "1000000"}, {"1", "1000000", "1000000"}, {"-1000000", "1", "-1000000"},
            {"-999999", "0", "-1000000"}, {"0", "-999999", "-1000000"}, {"1", "-1000000", "-1000000"},
            {"0 0;0 0", "250001", "1000000 1000000;1000000 1000000"},
            {"0 0;0 0", "-249999", "-1000000 -1000000;-1000000 -1000000"},
            {"3 4;4 4", "250000", "999999 1000000;1000000 1000000"},
            {"1 1;1 1", "1", "1 1;1 1"}, {"1000000 -1000000;0 5", "1", "1000000 -1000000;0 5"},
            {"4 1;1 0", "250000 -249999;1 1", "1000000 999997 -999996 -999999;999997 999996 -999999 -1000000;4 1 4 1;"
                + "1 0 1 0"}
        };
        for (String[] each : pairs) {
            SquareWorkshop x = Check.with(each[0]);
            x.keep(1);
            x.clearText();
            Check.typed(x, each[1]);
            x.read();
            String name = "promise 17: " + each[1] + " by " + each[0];
            Check.due(name, true, () -> x.multiply(1) >= 1);
            Check.due(name + ", its numbers", each[2], () -> Check.square(x));
            Check.due(name + " is a change", 2, x::undo);
            Check.due(name + " is undone", each[1], () -> Check.square(x));
        }
    }

    /** n * n less the rules that hang on none of the others, for the first and the last size and what. */
    private static void checkRooms() {
        int[][] dimensions = {
            {1, 1, 1, 1}, {2, 1, 1, 3}, {5, 3, 1, 5}, {10, 8, 5, 9}, {17, 15, 9, 13}, {26, 24, 17, 19}
        };
        SquareWorkshop x = new SquareWorkshop();
        for (int size = 1; size <= 6; size++) {
            for (int what = SquareWorkshop.HALF; what <= SquareWorkshop.LIKE; what++) {
                int n = size;
                int w = what;
                Check.due("promise 29: the size " + n + ", " + w, dimensions[n - 1][w - 1], () -> x.dimension(n, w));
            }
        }
        for (int size : new int[] {0, 7}) {
            Check.argument("promise 29: the size " + size, () -> x.dimension(size, SquareWorkshop.HALF));
            Check.argument("promise 29: the size " + size, () -> x.dimension(size, SquareWorkshop.LIKE));
        }
        Check.argument("promise 29: NORMAL has no room", () -> x.dimension(1, SquareWorkshop.NORMAL));
        Check.argument("promise 29: SQUARED has no room", () -> x.dimension(6, SquareWorkshop.SQUARED));
    }

    /** A rest that is 0 or more, for numbers below 0, too. */
    private static int rest(int number, int n) {
        int rest = number + 100 * n;
        while (rest >= n) {
            rest -= n;
        }
        return rest;
    }

    private static void checkCubes() {
        SquareWorkshop x = new SquareWorkshop();
        for (int n : new int[] {3, 5}) {
            boolean[] seen = new boolean[n * n * n + 1];
            for (int cell = 0; cell < n * n * n; cell++) {
                int layer = cell / (n * n);
                int row = cell / n % n;
                int column = cell % n;
                int i = layer + 1;
                int j = row + 1;
                int k = column + 1;
                int want = n * n * rest(i - j + k - 1, n) + n * rest(i - j - k, n) + rest(i + j + k - 2, n) + 1;
                Check.due("promise 38: " + n + ", " + layer + " " + row + " " + column, want,
                        () -> x.cubeAt(n, layer, row, column));
                seen[want] = true;
            }
            for (int number = 1; number < seen.length; number++) {
                boolean has = seen[number];
                Check.due("promise 39: the cube of " + n + " has " + number, true, () -> has);
            }
            Check.due("promise 39: the cube of " + n, 0, () -> x.cubeErrors(n));
        }
        Check.due("promise 38: the first cell of 3", 9 * 0 + 3 * 2 + 1 + 1, () -> x.cubeAt(3, 0, 0, 0));
        Check.due("promise 38: the last cell of 3", 9 * 2 + 3 * 0 + 1 + 1, () -> x.cubeAt(3, 2, 2, 2));
        Check.due("promise 38: the first cell of 5", 25 * 0 + 5 * 4 + 1 + 1, () -> x.cubeAt(5, 0, 0, 0));
        Check.due("promise 38: the last cell of 5", 25 * 4 + 5 * 0 + 3 + 1, () -> x.cubeAt(5, 4, 4, 4));
        Check.argument("promise 38: the size 4", () -> x.cubeAt(4, 0, 0, 0));
        Check.argument("promise 39: the size 4", () -> x.cubeErrors(4));
    }

    private static void checkThatNothingChanges() {
        Twin.same("promise 29: dimension", 15, AS_IT_IS, x -> x.dimension(5, SquareWorkshop.CONSTANT));
        Twin.same("promise 38: cubeAt", 17, AS_IT_IS, x -> x.cubeAt(3, 0, 1, 2));
        Twin.same("promise 39: cubeErrors of 3", 0, AS_IT_IS, x -> x.cubeErrors(3));
        Twin.same("promise 39: cubeErrors of 5", 0, AS_IT_IS, x -> x.cubeErrors(5));
        // A walk and a cube may share what they are worked out in: neither must be seen in the other one.
        Twin.same("promise 39: cubeErrors behind a walk", 0, x -> {
            x.make(SquareWorkshop.CROSS, 12);
            x.walk();
        }, x -> x.cubeErrors(5));
        Twin.same("promise 32: a walk behind cubeErrors", 4, x -> {
            x.make(SquareWorkshop.ODD, 3);
            x.cubeErrors(5);
        }, x -> x.walk());
    }
}
