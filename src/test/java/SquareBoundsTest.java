import java.math.BigInteger;

/** The bounds of section 2 and of promises 7 to 15, 32, 47 and 48: sizes, numbers, lines that go round, properties. */
public final class SquareBoundsTest {
    private static final String[] SORTS = {"ROW", "COLUMN", "DOWN", "UP"};
    private static final Twin.Way AS_IT_IS = x -> { };

    public static void main(String[] args) {
        checkSizes();
        checkNumbers();
        checkLines();
        checkLineOfEachCell();
        checkProducts();
        checkPages();
        checkFirstOff();
        checkNormal();
        checkSumsOfLines();
        checkLike();
        checkSquaresOfNumbers();
        checkTimes();
        checkUnlike();
        checkWalk();
        checkMeans();
        checkZeroShares();
        checkThatNothingChanges();
        Check.finish();
    }

    /** All zeros but for some cells, each told by its row, its column and its number. */
    private static SquareWorkshop zeros(int n, int... cells) {
        SquareWorkshop x = new SquareWorkshop();
        x.begin(n);
        for (int at = 0; at + 2 < cells.length; at += 3) {
            x.set(cells[at], cells[at + 1], cells[at + 2]);
        }
        return x;
    }

    private static SquareWorkshop filled(int n, int number) {
        SquareWorkshop x = zeros(n);
        for (int cell = 0; cell < n * n; cell++) {
            x.set(cell / n, cell % n, number);
        }
        return x;
    }

    /** From the size 4 on: all ROWs and COLUMNs have the sum 0, and just one diagonal has another one. */
    private static SquareWorkshop withOtherDiagonal(int n, int sort) {
        int left = sort == SquareWorkshop.DOWN ? 0 : n - 1;
        int right = sort == SquareWorkshop.DOWN ? 1 : n - 2;
        return zeros(n, 0, left, 1, 0, right, -1, 1, left, -1, 1, right, 1);
    }

    /** From the size 3 on: a CONSTANT square in which just broken diagonals of one sort have other sums. */
    private static SquareWorkshop withOtherBrokenDiagonals(int n, int sort) {
        SquareWorkshop x = zeros(n);
        int first = sort == SquareWorkshop.DOWN ? 1 : 0;
        int second = sort == SquareWorkshop.DOWN ? n - 1 : n - 2;
        for (int row = 0; row < n; row++) {
            x.set(row, columnOf(n, sort, first, row), 1);
            x.set(row, columnOf(n, sort, second, row), -1);
        }
        return x;
    }

    private static void checkSizes() {
        SquareWorkshop x = new SquareWorkshop();
        Check.due("section 2: the size at first", 1, x::size);
        Check.due("section 2: the number at first", 0, () -> x.at(0, 0));
        for (int size = 1; size <= 12; size++) {
            int n = size;
            int before = x.size();
            Check.due("promise 7: the size before " + n, before, () -> x.begin(n));
            Check.due("promise 8: the size " + n, n, x::size);
            Check.due("promise 7: each cell of the size " + n, 1f, x::zeroShare);
            Check.due("promise 9: the last cell of the size " + n, 0, () -> x.at(n - 1, n - 1));
            Check.due("promise 10: the last cell of the size " + n, 0, () -> x.set(n - 1, n - 1, n));
            Check.due("promise 10: the last row, the column 0", n == 1 ? 1 : 0, () -> x.set(n - 1, 0, -n));
            Check.due("promise 10: the row 0, the last column", n == 1 ? -1 : 0, () -> x.set(0, n - 1, 7 * n));
            Check.due("promise 9: the last row and column", n == 1 ? 7 : n, () -> x.at(n - 1, n - 1));
            Check.due("promise 9: the last row", n == 1 ? 7 : -n, () -> x.at(n - 1, 0));
            Check.due("promise 9: the last column", 7 * n, () -> x.at(0, n - 1));
        }
        Check.due("promise 7: down to the size 1", 12, () -> x.begin(1));
        Check.due("promise 7: its number is 0", 0, () -> x.at(0, 0));
        Check.due("promise 7: up to the size 12", 1, () -> x.begin(12));
        Check.due("promise 7: no number of the earlier squares is left", 1f, x::zeroShare);
    }

    private static void checkNumbers() {
        SquareWorkshop x = new SquareWorkshop();
        int[] numbers = {1000000, -1000000, 999999, -999999, 1, -1, 0};
        int before = 0;
        for (int number : numbers) {
            int last = before;
            Check.due("promise 10: " + number, last, () -> x.set(0, 0, number));
            Check.due("promise 9: " + number, number, () -> x.at(0, 0));
            before = number;
        }
        Check.state("promise 10: 1000001 is the first one above", () -> x.set(0, 0, 1000001));
        Check.state("promise 10: -1000001 is the first one below", () -> x.set(0, 0, -1000001));
        Check.due("promise 10: both leave the number", 0, () -> x.at(0, 0));
        Check.due("promise 10: the number that is there counts as a change, too", 0, () -> x.set(0, 0, 0));
        Check.due("promise 10: it can be undone", 7, x::undo);
    }

    /** Numbers that tell the cells apart, some of them below 0. */
    private static int mixed(int n, int row, int column) {
        return (row * n + column + 1) * (row * n + column + 1) * 37 - 5000 * (column % 3);
    }

    private static SquareWorkshop mixedSquare(int n) {
        SquareWorkshop x = zeros(n);
        for (int row = 0; row < n; row++) {
            for (int column = 0; column < n; column++) {
                x.set(row, column, mixed(n, row, column));
            }
        }
        return x;
    }

    private static int columnOf(int n, int sort, int line, int row) {
        return sort == SquareWorkshop.DOWN ? (line + row) % n : (line - row + n) % n;
    }

    private static void checkLines() {
        for (int n = 1; n <= 12; n++) {
            SquareWorkshop x = mixedSquare(n);
            for (int sort = 0; sort < 4; sort++) {
                for (int line = 0; line < n; line++) {
                    long sum = 0;
                    BigInteger product = BigInteger.ONE;
                    for (int step = 0; step < n; step++) {
                        int row = sort == SquareWorkshop.ROW ? line : step;
                        int column = sort == SquareWorkshop.ROW ? step
                                : sort == SquareWorkshop.COLUMN ? line : columnOf(n, sort, line, step);
                        sum += mixed(n, row, column);
                        product = product.multiply(BigInteger.valueOf(mixed(n, row, column)));
                    }
                    String name = "the size " + n + ", " + SORTS[sort] + " " + line;
                    long wantSum = sum;
                    String want = product.toString();
                    int s = sort;
                    int each = line;
                    Check.due("promise 11: " + name, wantSum, () -> x.sum(s, each));
                    Check.due("promise 12: " + name, want.length(), () -> x.writeProduct(s, each));
                    Check.due("promise 13: " + name, want, () -> Check.page(x, want.length()));
                }
            }
        }
    }

    /** A cell is in one line of each sort: this is where broken diagonals go round. */
    private static void checkLineOfEachCell() {
        int[] sizes = {2, 3, 4, 12};
        for (int n : sizes) {
            int[][] cells = {{0, 0}, {0, n - 1}, {n - 1, 0}, {n - 1, n - 1}, {1, 0}, {1, n - 1}, {n - 1, 1}};
            for (int[] cell : cells) {
                SquareWorkshop x = zeros(n, cell[0], cell[1], 1);
                for (int line = 0; line < n; line++) {
                    int each = line;
                    String name = "promise 11: the size " + n + ", the line " + line + " of " + cell[0] + " " + cell[1];
                    Check.due(name + ", DOWN", (line + cell[0]) % n == cell[1] ? 1L : 0L, () -> x.sum(2, each));
                    Check.due(name + ", UP", (cell[0] + cell[1]) % n == line ? 1L : 0L, () -> x.sum(3, each));
                }
            }
        }
        SquareWorkshop one = zeros(1, 0, 0, -7);
        for (int sort = 0; sort < 4; sort++) {
            int s = sort;
            Check.due("promise 11: all lines of the size 1", -7L, () -> one.sum(s, 0));
        }
        SquareWorkshop large = filled(12, 1000000);
        SquareWorkshop small = filled(12, -1000000);
        for (int sort = 0; sort < 4; sort++) {
            int s = sort;
            Check.due("promise 11: the greatest sum", 12000000L, () -> large.sum(s, 11));
            Check.due("promise 11: the least sum", -12000000L, () -> small.sum(s, 0));
        }
    }

    private static void product(String square, String want) {
        SquareWorkshop x = Check.with(square);
        Check.due("promise 12: the length of " + want, want.length(), () -> x.writeProduct(SquareWorkshop.ROW, 0));
        Check.due("promise 13: " + want, want, () -> Check.page(x, want.length()));
        Check.index("promise 13: behind " + want, () -> x.pageAt(want.length()));
    }

    private static void checkProducts() {
        product("0", "0");
        product("1", "1");
        product("-1", "-1");
        product("9", "9");
        product("10", "10");
        product("1000000", "1000000");
        product("-1000000", "-1000000");
        product("0 -5;1 1", "0");
        product("-5 0;1 1", "0");
        product("-3 -4;1 1", "12");
        product("-1 1;1 1", "-1");
        product("99999 10000;1 1", "999990000");
        product("1000 999999;1 1", "999999000");
        product("1000000 1000;1 1", "1000000000");
        product("1000000 1001;1 1", "1001000000");
        product("1000000 -1000000;1 1", "-1000000000000");
        // 9223372036854775807 is the greatest long: the product is the first number above it.
        product("65536 65536 65536;1 1 1;1 1 1", "281474976710656");
        product("65536 65536 65536 32768;1 1 1 1;1 1 1 1;1 1 1 1", "9223372036854775808");
        product("65536 65536 65536 65536;1 1 1 1;1 1 1 1;1 1 1 1", "18446744073709551616");
        product("-65536 65536 65536 65536;1 1 1 1;1 1 1 1;1 1 1 1", "-18446744073709551616");
        String ones = (";1" + " 1".repeat(11)).repeat(11);
        product("1000000" + " 1000000".repeat(11) + ones, "1" + "0".repeat(72));
        product("-1000000" + " 1000000".repeat(11) + ones, "-1" + "0".repeat(72));
        product("-1000000" + " -1000000".repeat(11) + ones, "1" + "0".repeat(72));
        product("0" + " 1000000".repeat(11) + ones, "0");
        product("1000000 ".repeat(11) + "0" + ones, "0");
        product("-999999" + " 999999".repeat(11) + ones, "-" + BigInteger.valueOf(999999).pow(12));
    }

    private static void checkPages() {
        SquareWorkshop x = Check.with("-10 12;0 7");
        Check.index("promise 13: an empty page has no byte 0", () -> x.pageAt(0));
        Check.due("promise 12: a page of 4 bytes", 4, () -> x.writeProduct(SquareWorkshop.ROW, 0));
        Check.due("promise 13: the first byte is the minus", (int) '-', () -> x.pageAt(0));
        Check.due("promise 13: the last byte", (int) '0', () -> x.pageAt(3));
        Check.index("promise 13: the first byte behind it", () -> x.pageAt(4));
        Check.index("promise 13: the byte -1", () -> x.pageAt(-1));
        Check.due("promise 12: a page of 1 byte in its place", 1, () -> x.writeProduct(SquareWorkshop.ROW, 1));
        Check.due("promise 13: its byte", (int) '0', () -> x.pageAt(0));
        Check.index("promise 13: no byte of the page before", () -> x.pageAt(1));
        x.begin(12);
        Check.due("promise 13: the page stays, whatever the square is", "0", () -> Check.page(x, 1));
        x.clearText();
        x.newGame();
        x.undo();
        Check.due("promise 13: and whatever is emptied", "0", () -> Check.page(x, 1));
    }

    /** Each line that is looked at, as the only one, or the first one, that is off. */
    private static void checkFirstOff() {
        for (int n = 2; n <= 12; n++) {
            int last = n - 1;
            for (int row = 1; row < n; row++) {
                SquareWorkshop x = zeros(n, row, row, 1);
                Check.due("promise 14: the ROW " + row + " of " + n, row, x::firstOff);
            }
            SquareWorkshop first = zeros(n, 0, 0, 1);
            Check.due("promise 14: the ROW 0 is the one that the others are held against", 1, first::firstOff);
            for (int column = 0; column < n; column++) {
                // All ROWs have the sum 1, and all COLUMNs ahead of one, too.
                SquareWorkshop x = zeros(n);
                for (int row = 0; row < n; row++) {
                    x.set(row, row < column ? row : last, 1);
                }
                int each = column;
                int want = column == last ? 200 : 100 + column;
                Check.due("promise 14: the COLUMN " + each + " of " + n, want, x::firstOff);
            }
            Check.due("promise 14: none of " + n, -1, filled(n, 3)::firstOff);
            if (n > 3) {
                Check.due("promise 14: DOWN 0 of " + n, 200, withOtherDiagonal(n, SquareWorkshop.DOWN)::firstOff);
                Check.due("promise 14: UP n - 1 of " + n, 300 + last,
                        withOtherDiagonal(n, SquareWorkshop.UP)::firstOff);
            }
            if (n > 2) {
                Check.due("promise 14: no broken DOWN of " + n, -1,
                        withOtherBrokenDiagonals(n, SquareWorkshop.DOWN)::firstOff);
                Check.due("promise 14: no broken UP of " + n, -1,
                        withOtherBrokenDiagonals(n, SquareWorkshop.UP)::firstOff);
            }
        }
        Check.due("promise 14: DOWN 0 ahead of UP 1", 200, Check.with("1 -1;-1 1")::firstOff);
        Check.due("promise 14: the size 1 has one line of each sort", -1, filled(1, -1000000)::firstOff);
    }

    private static void property(String what, int property, boolean want, SquareWorkshop x) {
        Check.due("promise 15: " + what, want, () -> x.is(property));
    }

    private static void checkNormal() {
        int normal = SquareWorkshop.NORMAL;
        for (int n = 1; n <= 12; n++) {
            SquareWorkshop x = zeros(n);
            for (int cell = 0; cell < n * n; cell++) {
                x.set(cell / n, cell % n, n * n - cell);
            }
            property("NORMAL of the size " + n, normal, true, x);
            x.set(0, 0, n * n + 1);
            property("NORMAL has no number above n * n, " + n, normal, false, x);
            x.set(0, 0, n * n);
            x.set(n - 1, n - 1, 0);
            property("NORMAL has no 0, " + n, normal, false, x);
            x.set(n - 1, n - 1, -1);
            property("NORMAL has no number below 0, " + n, normal, false, x);
            x.set(n - 1, n - 1, n * n);
            property("NORMAL has no number twice, " + n, normal, n == 1, x);
            x.set(n - 1, n - 1, 1000000);
            property("NORMAL has no large number, " + n, normal, false, x);
        }
    }

    private static void checkSumsOfLines() {
        for (int n = 2; n <= 12; n++) {
            property("HALF and all numbers the same, " + n, SquareWorkshop.HALF, true, filled(n, -4));
            property("ALL and all numbers the same, " + n, SquareWorkshop.ALL, true, filled(n, -4));
            int last = n - 1;
            property("HALF needs the COLUMNs, " + n, SquareWorkshop.HALF, false, zeros(n, last, 0, 1, last, last, -1));
            property("HALF needs the ROWs, " + n, SquareWorkshop.HALF, false, zeros(n, 0, last, 1, last, last, -1));
            property("HALF needs the last ROW and COLUMN, " + n, SquareWorkshop.HALF, false, zeros(n, last, last, 1));
            property("HALF needs the ROW 0 and the COLUMN 0, " + n, SquareWorkshop.HALF, false, zeros(n, 0, 0, 1));
            // 1 and -1 at the corners of a rectangle leave ROWs and COLUMNs, and change the diagonals alone.
            SquareWorkshop both = zeros(n, 0, 0, 1, last, last, 1, 0, last, -1, last, 0, -1);
            property("HALF with other diagonals, " + n, SquareWorkshop.HALF, true, both);
            property("CONSTANT needs the diagonals, " + n, SquareWorkshop.CONSTANT, false, both);
        }
        for (int n = 3; n <= 12; n++) {
            int last = n - 1;
            SquareWorkshop rows = zeros(n, 1, 0, 1, last, 0, -1);
            property("HALF needs the ROWs behind the ROW 0, " + n, SquareWorkshop.HALF, false, rows);
            SquareWorkshop columns = zeros(n, 0, 1, 1, 0, last, -1);
            property("HALF needs the COLUMNs behind the COLUMN 0, " + n, SquareWorkshop.HALF, false, columns);
        }
        for (int n = 4; n <= 12; n++) {
            for (int sort = SquareWorkshop.DOWN; sort <= SquareWorkshop.UP; sort++) {
                SquareWorkshop x = withOtherDiagonal(n, sort);
                int down = sort == SquareWorkshop.DOWN ? 2 : 0;
                int line = n - 1;
                Check.due("promise 11: the diagonals of " + n, down + " " + (2 - down),
                        () -> x.sum(SquareWorkshop.DOWN, 0) + " " + x.sum(SquareWorkshop.UP, line));
                property("HALF lets the diagonals be, " + n, SquareWorkshop.HALF, true, x);
                property("CONSTANT needs the diagonal " + SORTS[sort], SquareWorkshop.CONSTANT, false, x);
            }
        }
        checkBrokenDiagonals();
    }

    private static void checkBrokenDiagonals() {
        for (int n = 3; n <= 12; n++) {
            for (int sort = SquareWorkshop.DOWN; sort <= SquareWorkshop.UP; sort++) {
                SquareWorkshop x = withOtherBrokenDiagonals(n, sort);
                property("CONSTANT lets broken diagonals be, " + n, SquareWorkshop.CONSTANT, true, x);
                property("ALL needs the broken diagonals " + SORTS[sort] + ", " + n, SquareWorkshop.ALL, false, x);
            }
        }
        property("HALF of the size 2", SquareWorkshop.HALF, true, Check.with("1 2;2 1"));
        property("ALL of the size 2", SquareWorkshop.ALL, false, Check.with("1 2;2 1"));
        for (int what = SquareWorkshop.HALF; what <= SquareWorkshop.ALL; what++) {
            property("all lines of the size 1", what, true, filled(1, -1000000));
        }
    }

    private static void checkLike() {
        int like = SquareWorkshop.LIKE;
        property("LIKE of the size 1", like, true, filled(1, -7));
        for (int n = 2; n <= 12; n++) {
            int last = n - 1;
            SquareWorkshop x = zeros(n, 0, 0, 1, last, last, -1, 0, last, 5, last, 0, -5);
            property("LIKE of the size " + n, like, true, x);
            x.set(last, last, 0);
            property("LIKE needs the corners, " + n, like, false, x);
            x.set(last, last, -1);
            x.set(last, 0, -4);
            property("LIKE needs the other corners, " + n, like, false, x);
        }
        property("LIKE, the middle cell counts twice", like, true, Check.with("0 0 0;8 4 0;8 8 8"));
        property("LIKE, the middle cell does not count once", like, false, Check.with("0 0 0;8 8 0;8 8 8"));
        property("LIKE, the middle cell of an odd sum", like, false, Check.with("0 0 0;7 3 0;7 7 7"));
        property("LIKE, the middle cell of the size 11", like, false, zeros(11, 5, 5, 1));
        property("LIKE, the middle cells of the size 12", like, true, zeros(12, 5, 5, 1, 6, 6, -1));
        property("LIKE, a middle cell of the size 12", like, false, zeros(12, 5, 5, 1, 6, 6, 1));
        property("LIKE of the greatest numbers", like, true, Check.with("1000000 -1000000;1000000 -1000000"));
    }

    private static void checkSquaresOfNumbers() {
        int squared = SquareWorkshop.SQUARED;
        property("SQUARED of the size 1", squared, true, filled(1, -1000000));
        property("SQUARED of the greatest numbers", squared, true, filled(12, 1000000));
        property("SQUARED of the least numbers", squared, true, filled(12, -1000000));
        property("SQUARED must be CONSTANT", squared, false, Check.with("1 -1;-1 1"));
        property("SQUARED must be HALF", squared, false, Check.with("1 -1;1 -1"));
        // ODD 3 is CONSTANT; its squares are not.
        property("SQUARED needs the squares", squared, false, Check.with("8 1 6;3 5 7;4 9 2"));
        // Of 65536 * 65536 = 2^32 an int would hold nothing: the ROW 1 has none of these numbers.
        SquareWorkshop lost = zeros(4, 0, 1, 65536, 0, 2, -65536, 3, 1, -65536, 3, 2, 65536);
        property("CONSTANT of large numbers", SquareWorkshop.CONSTANT, true, lost);
        property("SQUARED of squares that no int holds", squared, false, lost);
    }

    private static void checkTimes() {
        int times = SquareWorkshop.TIMES;
        property("TIMES of the size 1", times, true, filled(1, 0));
        for (int n = 2; n <= 12; n++) {
            SquareWorkshop x = filled(n, 1000000);
            property("TIMES of the greatest numbers, " + n, times, true, x);
            x.set(n - 1, n - 1, 999999);
            property("TIMES, the last cell, " + n, times, false, x);
            x.set(n - 1, n - 1, -1000000);
            property("TIMES, the sign of the last cell, " + n, times, false, x);
            x.set(n - 1, n - 1, 0);
            property("TIMES, a 0 in the last cell, " + n, times, false, x);
        }
        property("TIMES of other sums", times, true, Check.with("2 256 8;64 16 4;32 1 128"));
        property("TIMES of other signs", times, true, Check.with("-1 1 1;1 -1 1;1 1 -1"));
        property("TIMES needs the COLUMN 0, if all others are 0", times, false, Check.with("1 0;1 0"));
        property("TIMES needs the ROW 0, if all others are 0", times, false, Check.with("1 1;0 0"));
        property("TIMES needs the COLUMN 1, if all others are 0", times, false, Check.with("0 1;0 1"));
        property("TIMES needs the ROW 1, if all others are 0", times, false, Check.with("0 0;1 1"));
        property("TIMES needs DOWN 0, if all others are 0", times, false, Check.with("1 0 0;0 1 0;0 0 1"));
        property("TIMES needs UP n - 1, if all others are 0", times, false, Check.with("0 0 1;0 1 0;1 0 0"));
        property("TIMES of zeros", times, true, Check.with("0 0 0;0 5 0;0 0 0"));
        property("TIMES needs UP n - 1", times, false, Check.with("1 2 4;2 4 1;4 1 2"));
        property("TIMES needs DOWN 0", times, false, Check.with("4 2 1;1 4 2;2 1 4"));
        property("TIMES needs the ROWs", times, false, Check.with("2 2;1 1"));
        property("TIMES needs the COLUMNs", times, false, Check.with("2 1;2 1"));
        // 2^64 is lost in what a long holds: all products but those of the ROW 0 are 0 then, too.
        property("TIMES of what no long holds", times, false,
                Check.with("65536 65536 65536 65536;0 0 0 0;0 0 0 0;0 0 0 0"));
    }

    private static void checkUnlike() {
        int unlike = SquareWorkshop.UNLIKE;
        property("UNLIKE of the size 1", unlike, true, filled(1, 0));
        for (int n = 2; n <= 12; n++) {
            int last = n - 1;
            SquareWorkshop x = zeros(n);
            for (int cell = 0; cell < n * n; cell++) {
                x.set(cell / n, cell % n, cell);
            }
            property("UNLIKE of the size " + n, unlike, true, x);
            x.set(0, 0, last * n + last);
            property("UNLIKE lets the diagonal be, " + n, unlike, true, x);
            x.set(0, 0, last);
            property("UNLIKE, the ends of the ROW 0, " + n, unlike, false, x);
            x.set(0, 0, last * n);
            property("UNLIKE, the ends of the COLUMN 0, " + n, unlike, false, x);
            x.set(0, 0, 0);
            x.set(last, last, last * n);
            property("UNLIKE, the ends of the last ROW, " + n, unlike, false, x);
            x.set(last, last, last);
            property("UNLIKE, the ends of the last COLUMN, " + n, unlike, false, x);
        }
    }

    private static void checkWalk() {
        Check.due("promise 32: the size 1 has no next number", 0, () -> filled(1, 1).walk());
        Check.due("promise 32: the number 0 is not NORMAL", -1, () -> filled(1, 0).walk());
        Check.due("promise 32: 2 is not NORMAL", -1, () -> filled(1, 2).walk());
        Check.due("promise 32: one number above", -1, () -> Check.with("1 2;3 5").walk());
        Check.due("promise 32: one number twice", -1, () -> Check.with("1 2;3 3").walk());
        // The only step that is a knight's move is the last one, from 8 to 9, or the first one, from 1 to 2.
        Check.due("promise 32: the last step", 7, () -> Check.with("1 2 3;5 4 8;9 6 7").walk());
        Check.due("promise 32: the first step", 7, () -> Check.with("1 3 4;6 5 2;7 8 9").walk());
        // From 1 to 2 it would be a knight's move, if the column 3 stood beside the column 0.
        Check.due("promise 32: no step goes round", 15,
                () -> Check.with("1 5 6 7;8 9 10 11;12 13 14 2;3 4 15 16").walk());
        SquareWorkshop rows = zeros(12);
        for (int cell = 0; cell < 144; cell++) {
            rows.set(cell / 12, cell % 12, cell + 1);
        }
        Check.due("promise 32: all steps of the size 12", 143, rows::walk);
        rows.set(11, 11, 145);
        Check.due("promise 32: not NORMAL in the last cell", -1, rows::walk);
    }

    private static void checkMeans() {
        Check.due("promise 47: the greatest one", 1000000.0, () -> filled(12, 1000000).meanNumber());
        Check.due("promise 47: the least one", -1000000.0, () -> filled(12, -1000000).meanNumber());
        Check.due("promise 47: the size 1", -3.0, () -> filled(1, -3).meanNumber());
        Check.due("promise 47: 0", 0.0, () -> zeros(12).meanNumber());
        for (int n = 1; n <= 12; n++) {
            Check.due("promise 47: 1 of " + n, (double) 1 / (double) (n * n), zeros(n, 0, 0, 1)::meanNumber);
        }
        Check.due("promise 47: all cells count", (double) 7 / (double) 144,
                zeros(12, 0, 0, 3, 11, 11, 4)::meanNumber);
        Check.due("promise 47: below 0", (double) -2 / (double) 9, () -> zeros(3, 1, 1, -2).meanNumber());
    }

    private static void checkZeroShares() {
        Check.due("promise 48: all", 1f, () -> zeros(12).zeroShare());
        Check.due("promise 48: none", 0f, () -> filled(12, -1).zeroShare());
        Check.due("promise 48: all of the size 1", 1f, () -> zeros(1).zeroShare());
        Check.due("promise 48: none of the size 1", 0f, () -> filled(1, 1).zeroShare());
        for (int size = 2; size <= 12; size++) {
            int n = size;
            int last = n - 1;
            Check.due("promise 48: all but the first and the last cell, " + n, (float) (n * n - 2) / (float) (n * n),
                    () -> zeros(n, 0, 0, 1, last, last, -1).zeroShare());
        }
    }

    private static void checkThatNothingChanges() {
        Twin.same("promise 8: size", 2, AS_IT_IS, x -> x.size());
        Twin.same("promise 9: at", 8, AS_IT_IS, x -> x.at(1, 1));
        Twin.same("promise 11: sum", 13L, AS_IT_IS, x -> x.sum(SquareWorkshop.DOWN, 0));
        Twin.same("promise 13: pageAt", (int) '1', AS_IT_IS, x -> x.pageAt(0));
        Twin.same("promise 14: firstOff", 1, AS_IT_IS, x -> x.firstOff());
        for (int what = SquareWorkshop.NORMAL; what <= SquareWorkshop.UNLIKE; what++) {
            int each = what;
            boolean want = what == SquareWorkshop.LIKE || what == SquareWorkshop.UNLIKE;
            Twin.same("promise 15: is " + what, want, AS_IT_IS, x -> x.is(each));
        }
        Twin.same("promise 32: walk", -1, AS_IT_IS, x -> x.walk());
        Twin.same("promise 32: walk of a NORMAL square", 4, x -> x.make(SquareWorkshop.ODD, 3), x -> x.walk());
        Twin.same("promise 47: meanNumber", 6.5, AS_IT_IS, x -> x.meanNumber());
        Twin.same("promise 48: zeroShare", 0f, AS_IT_IS, x -> x.zeroShare());
    }
}
