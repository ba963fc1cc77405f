/** Promises 7 to 15, 47 and 48: the square, its lines and its properties. */
public final class SquareTest {
    private static final String BIG = "1000000 ".repeat(11) + "1000000";
    // The pandiagonal square of the size 4, and one whose products agree (sums do not).
    private static final String PAN = "1 8 10 15;12 13 3 6;7 2 16 9;14 11 5 4";
    private static final String PRODUCTS = "2 256 8;64 16 4;32 1 128";
    // Pfeffermann's square of the size 8: its numbers and their squares have constant sums.
    private static final String SQUARED = "56 34 8 57 18 47 9 31;33 20 54 48 7 29 59 10;26 43 13 23 64 38 4 49;"
            + "19 5 35 30 53 12 46 60;15 25 63 2 41 24 50 40;6 55 17 11 36 58 32 45;61 16 42 52 27 1 39 22;"
            + "44 62 28 37 14 51 21 3";

    public static void main(String[] args) {
        checkBegin();
        checkCells();
        checkSums();
        checkProducts();
        checkFirstOff();
        checkProperties();
        checkLesserProperties();
        checkShares();
        Check.finish();
    }

    private static void checkBegin() {
        SquareWorkshop x = Check.with("1 2;3 4");
        Check.due("promise 7: the size before", 2, () -> x.begin(3));
        Check.due("promise 7: zeros", "0 0 0;0 0 0;0 0 0", () -> Check.square(x));
        Check.due("promise 8: the size", 3, x::size);
        Check.argument("promise 7: the size 0", () -> x.begin(0));
        Check.argument("promise 7: the size 13", () -> x.begin(13));
        Check.argument("promise 7: the size -1", () -> x.begin(-1));
        Check.unchanged("promise 7: what throws", x, "0 0 0;0 0 0;0 0 0", 2);
        Check.due("promise 7: undone", "1 2;3 4", () -> Check.square(x));
        Check.due("promise 7: the size 12", 2, () -> x.begin(12));
        Check.due("promise 7: the size 1", 12, () -> x.begin(1));
        Check.due("promise 8: the size 1", 1, x::size);
        x.begin(2);
        x.set(1, 1, 4);
        Check.due("promise 7: begun anew", 2, () -> x.begin(2));
        Check.due("promise 7: all zeros", "0 0;0 0", () -> Check.square(x));
    }

    private static void checkCells() {
        SquareWorkshop x = Check.with("1 2 3;4 5 6;7 8 9");
        Check.due("promise 9: row first", 6, () -> x.at(1, 2));
        Check.due("promise 9: the last cell", 9, () -> x.at(2, 2));
        int[][] none = {{-1, 0}, {0, -1}, {3, 0}, {0, 3}, {Integer.MIN_VALUE, 0}, {0, Integer.MAX_VALUE}};
        for (int[] each : none) {
            Check.index("promise 9: no such cell", () -> x.at(each[0], each[1]));
            Check.index("promise 10: no such cell", () -> x.set(each[0], each[1], 5));
            Check.index("promise 10: the first of two exceptions", () -> x.set(each[0], each[1], 1000001));
        }
        Check.state("promise 10: above", () -> x.set(0, 0, 1000001));
        Check.state("promise 10: below", () -> x.set(0, 0, -1000001));
        Check.state("promise 10: the least int", () -> x.set(0, 0, Integer.MIN_VALUE));
        Check.unchanged("promise 10: what throws", x, "1 2 3;4 5 6;7 8 9", 1);
        Check.due("promise 45: the square at first", "0", () -> Check.square(x));
        x.begin(2);
        Check.due("promise 10: the number before", 0, () -> x.set(0, 1, -1000000));
        Check.due("promise 10: the number before", -1000000, () -> x.set(0, 1, 1000000));
        Check.due("promise 10: row and column", "0 1000000;0 0", () -> Check.square(x));
        Check.due("promise 10: a change", 2, x::undo);
        Check.due("promise 10: undone", "0 -1000000;0 0", () -> Check.square(x));
    }

    private static void checkSums() {
        SquareWorkshop x = Check.with("1 20 300;4000 50000 600000;7 80 900");
        long[][] want = {{321, 654000, 987}, {4008, 50100, 601200}, {50901, 600027, 4380}};
        for (int line = 0; line < 3; line++) {
            int each = line;
            Check.due("promise 11: ROW " + line, want[0][line], () -> x.sum(SquareWorkshop.ROW, each));
            Check.due("promise 11: COLUMN " + line, want[1][line], () -> x.sum(SquareWorkshop.COLUMN, each));
            Check.due("promise 11: DOWN " + line, want[2][line], () -> x.sum(SquareWorkshop.DOWN, each));
        }
        Check.due("promise 11: UP 0", 1L + 600000 + 80, () -> x.sum(SquareWorkshop.UP, 0));
        Check.due("promise 11: UP 1", 20L + 4000 + 900, () -> x.sum(SquareWorkshop.UP, 1));
        Check.due("promise 11: UP 2", 300L + 50000 + 7, () -> x.sum(SquareWorkshop.UP, 2));
        Check.argument("promise 11: the sort -1", () -> x.sum(-1, 0));
        Check.argument("promise 11: the sort 4", () -> x.sum(4, 0));
        Check.argument("promise 11: the first of two exceptions", () -> x.sum(4, 3));
        for (int sort = 0; sort < 4; sort++) {
            int each = sort;
            Check.index("promise 11: the line -1", () -> x.sum(each, -1));
            Check.index("promise 11: the line 3", () -> x.sum(each, 3));
        }
        SquareWorkshop y = big();
        Check.due("promise 11: the greatest sum", 12000000L, () -> y.sum(SquareWorkshop.UP, 11));
    }

    private static SquareWorkshop big() {
        SquareWorkshop x = new SquareWorkshop();
        x.begin(12);
        for (int row = 0; row < 12; row++) {
            for (int column = 0; column < 12; column++) {
                x.set(row, column, 1000000);
            }
        }
        return x;
    }

    private static void product(SquareWorkshop x, int sort, int line, String want) {
        Check.due("promise 12: the length of " + want, want.length(), () -> x.writeProduct(sort, line));
        Check.due("promise 13: the page", want, () -> Check.page(x, want.length()));
        Check.index("promise 13: behind the page", () -> x.pageAt(want.length()));
        Check.index("promise 13: ahead of the page", () -> x.pageAt(-1));
    }

    private static void checkProducts() {
        SquareWorkshop x = Check.with("2 -3 5;7 11 13;17 0 19");
        product(x, SquareWorkshop.ROW, 0, "-30");
        product(x, SquareWorkshop.ROW, 1, "1001");
        product(x, SquareWorkshop.ROW, 2, "0");
        product(x, SquareWorkshop.COLUMN, 0, "238");
        product(x, SquareWorkshop.COLUMN, 1, "0");
        product(x, SquareWorkshop.DOWN, 1, "-663");
        product(x, SquareWorkshop.UP, 2, "935");
        product(x, SquareWorkshop.UP, 1, "-399");
        Check.argument("promise 12: the sort 4", () -> x.writeProduct(4, 9));
        Check.argument("promise 12: the sort -1", () -> x.writeProduct(-1, 0));
        Check.index("promise 12: the line 3", () -> x.writeProduct(0, 3));
        Check.index("promise 12: the line -1", () -> x.writeProduct(3, -1));
        Check.due("promise 12: what throws leaves the page", "-399", () -> Check.page(x, 4));
        SquareWorkshop y = big();
        product(y, SquareWorkshop.DOWN, 5, "1" + "0".repeat(72));
        y.set(3, 3, -999999);
        product(y, SquareWorkshop.ROW, 3, "-999999" + "0".repeat(66));
        for (int column = 0; column < 12; column++) {
            y.set(0, column, 999983);
        }
        product(y, SquareWorkshop.ROW, 0, new java.math.BigInteger("999983").pow(12).toString());
        SquareWorkshop z = Check.with("-0 1;1 1000");
        product(z, SquareWorkshop.ROW, 0, "0");
        product(Check.with("-5"), SquareWorkshop.UP, 0, "-5");
        product(Check.with("1000000 1000;1 1"), SquareWorkshop.ROW, 0, "1000000000");
    }

    private static void checkFirstOff() {
        Check.due("promise 14: none", -1, () -> Check.with("8 1 6;3 5 7;4 9 2").firstOff());
        Check.due("promise 14: a ROW", 1, () -> Check.with("1 2;3 4").firstOff());
        Check.due("promise 14: the ROW 2", 2, () -> Check.with("1 1 1;1 1 1;1 1 2").firstOff());
        Check.due("promise 14: a COLUMN", 100, () -> Check.with("1 2;1 2").firstOff());
        Check.due("promise 14: the COLUMN 1", 101, () -> Check.with("3 1 5;3 3 3;3 3 3").firstOff());
        Check.due("promise 14: DOWN 0", 200, () -> Check.with("3 2 1;1 3 2;2 1 3").firstOff());
        Check.due("promise 14: UP n - 1", 302, () -> Check.with("1 2 3;2 3 1;3 1 2").firstOff());
        Check.due("promise 14: the size 1", -1, () -> Check.with("7").firstOff());
        Check.due("promise 14: broken diagonals do not count", -1, () -> Check.with("2 9 4;7 5 3;6 1 8").firstOff());
    }

    private static void has(String text, String properties) {
        SquareWorkshop x = Check.with(text);
        for (int what = 0; what < 8; what++) {
            int each = what;
            Check.due("promise 15: the property " + what + " of " + text, properties.charAt(what) == '1',
                    () -> x.is(each));
        }
    }

    private static void checkProperties() {
        //     NORMAL, HALF, CONSTANT, ALL, LIKE, SQUARED, TIMES, UNLIKE
        has("1", "11111111");
        has("0", "01111111");
        has("8 1 6;3 5 7;4 9 2", "11101001");
        has(PAN, "11110001");
        has(SQUARED, "11100101");
        has(PRODUCTS, "00000011");
        has("5 5;5 5", "01111110");
        has("1 2;3 4", "10001001");
        has("1 2;2 1", "01000001");
        has("1 2;1 2", "00001000");
        has("2 1;2 1", "00001000");
        has("1 1;2 2", "00001000");
        has("8 1 6;3 5 7;4 9 10", "00000001");
        has("1 2 3;3 1 2;2 3 1", "01000001");
        has("2 3 2;1 2 3;2 1 2", "00001000");
        has("2 1 2;1 2 1;2 1 2", "00000000");
        has("0 1 2;3 4 5;6 7 8", "00001001");
        has("-1 1 1;1 -1 1;1 1 -1", "01000010");
        SquareWorkshop x = new SquareWorkshop();
        Check.argument("promise 15: -1", () -> x.is(-1));
        Check.argument("promise 15: 8", () -> x.is(8));
    }

    private static void checkLesserProperties() {
        Check.due("promise 15: NORMAL from 1 on", false, () -> Check.with("0 1;2 3").is(SquareWorkshop.NORMAL));
        Check.due("promise 15: NORMAL to n * n", false, () -> Check.with("1 2;3 5").is(SquareWorkshop.NORMAL));
        Check.due("promise 15: NORMAL once each", false, () -> Check.with("1 2;2 4").is(SquareWorkshop.NORMAL));
        String down = "3 2 1;1 3 2;2 1 3";
        Check.due("promise 15: CONSTANT needs DOWN 0", false, () -> Check.with(down).is(SquareWorkshop.CONSTANT));
        String up = "1 2 3;2 3 1;3 1 2";
        Check.due("promise 15: CONSTANT needs UP n - 1", false, () -> Check.with(up).is(SquareWorkshop.CONSTANT));
        Check.due("promise 15: LIKE needs the middle cell", false,
                () -> Check.with("8 1 6;3 6 7;4 9 2").is(SquareWorkshop.LIKE));
        Check.due("promise 15: TIMES with another product of a diagonal", false,
                () -> Check.with("1 2 4;4 1 2;2 4 1").is(SquareWorkshop.TIMES));
        Check.due("promise 15: TIMES with a sign", false, () -> Check.with("-1 -1;1 1").is(SquareWorkshop.TIMES));
        Check.due("promise 15: TIMES with zeros", true, () -> Check.with("0 0 1;0 0 0;1 0 0").is(SquareWorkshop.TIMES));
        Check.due("promise 15: TIMES with a zero", false, () -> Check.with("0 1;1 0").is(SquareWorkshop.TIMES));
        SquareWorkshop x = big();
        Check.due("promise 15: TIMES of products that no long holds", true, () -> x.is(SquareWorkshop.TIMES));
        x.set(11, 11, 999999);
        Check.due("promise 15: TIMES is exact", false, () -> x.is(SquareWorkshop.TIMES));
        Check.due("promise 15: UNLIKE in columns", false, () -> Check.with("1 2;1 3").is(SquareWorkshop.UNLIKE));
        Check.due("promise 15: UNLIKE in rows", false, () -> Check.with("1 1;2 3").is(SquareWorkshop.UNLIKE));
        Check.due("promise 15: UNLIKE lets diagonals be", true, () -> Check.with("1 2;3 1").is(SquareWorkshop.UNLIKE));
        checkSquared();
        Check.due("promise 15: SQUARED of large numbers", true,
                () -> Check.with("1000000 -1000000;-1000000 1000000").is(SquareWorkshop.HALF));
        Check.due("promise 15: a line of " + BIG.length(), true, () -> big().is(SquareWorkshop.SQUARED));
    }

    /** CONSTANT squares, in which the squares of the numbers agree in all lines but one sort. */
    private static void checkSquared() {
        String[] all = {
            "-2 -3 2 3;-3 3 -2 2;3 -3 2 -2;2 3 -2 -3",
            "-2 -3 3 2;-3 3 -3 3;2 -2 2 -2;3 2 -2 -3",
            "1 -1 0 0 0;-1 0 1 0 0;0 1 0 -1 0;0 0 -1 0 1;0 0 0 1 -1",
            "0 0 0 -1 1;0 0 1 0 -1;0 -1 0 1 0;1 0 -1 0 0;-1 1 0 0 0"
        };
        for (String each : all) {
            SquareWorkshop x = Check.with(each);
            Check.due("promise 15: CONSTANT " + each, true, () -> x.is(SquareWorkshop.CONSTANT));
            Check.due("promise 15: not SQUARED " + each, false, () -> x.is(SquareWorkshop.SQUARED));
        }
        SquareWorkshop x = Check.with("-3 -3 3 3;-3 3 -3 3;3 -3 3 -3;3 3 -3 -3");
        Check.due("promise 15: SQUARED", true, () -> x.is(SquareWorkshop.SQUARED));
    }

    private static void checkShares() {
        Check.due("promise 47: the mean", 2.5, () -> Check.with("1 2;3 4").meanNumber());
        Check.due("promise 47: below 0", -1.0 / 9, () -> Check.with("-1 0 0;0 0 0;0 0 0").meanNumber());
        Check.due("promise 47: of large numbers", 1000000.0, () -> big().meanNumber());
        Check.due("promise 47: a new object", 0.0, () -> new SquareWorkshop().meanNumber());
        Check.due("promise 48: the share", 0.5f, () -> Check.with("0 2;3 0").zeroShare());
        Check.due("promise 48: a third in float", 3f / 9f, () -> Check.with("1 0 1;0 1 0;1 1 -1").zeroShare());
        Check.due("promise 48: none", 0f, () -> Check.with("1").zeroShare());
        Check.due("promise 48: all", 1f, () -> new SquareWorkshop().zeroShare());
    }
}
