/** Each call that the document refuses, with its exception, the first one of several; none of them changes anything. */
public final class RefusedTest {
    private static final int LEAST_INT = Integer.MIN_VALUE;
    private static final int GREATEST_INT = Integer.MAX_VALUE;
    private static final int[] SORTS = {-1, 4, LEAST_INT, GREATEST_INT};
    private static final int[] NO_DRAWERS = {-1, 6, LEAST_INT, GREATEST_INT};
    private static final int[] EMPTY_DRAWERS = {1, 3, 4};
    private static final Twin.Way AS_IT_IS = x -> { };

    public static void main(String[] args) {
        refuseBytes();
        refuseTexts();
        refuseSizes();
        refuseCells();
        refuseNumbers();
        refuseLines();
        refuseBytesOfThePage();
        refuseProperties();
        refuseWays();
        refuseDrawers();
        refuseProducts();
        refuseSums();
        refuseMultiples();
        refuseExchanges();
        refuseRooms();
        refuseFillings();
        refuseHexagonCells();
        refuseHexagonFillings();
        refuseCubes();
        refusePicks();
        Check.finish();
    }

    private static Twin.Way typed(String text) {
        return x -> {
            x.clearText();
            Check.typed(x, text);
        };
    }

    private static Twin.Way square(String text) {
        return x -> {
            typed(text).run(x);
            x.read();
        };
    }

    private static void refuseBytes() {
        for (int room = 0; room < 8; room++) {
            long tooMuch = 0;
            for (int each = 0; each <= room; each++) {
                tooMuch = tooMuch << 8 | 0x31;
            }
            long word = tooMuch;
            Twin.state("promise 2: one byte more than the room for " + room, typed("1".repeat(400 - room)),
                    x -> x.type(word));
        }
        Twin.state("promise 2: eight bytes of 255 behind 393", typed("1".repeat(393)), x -> x.type(-1L));
        Twin.state("promise 2: the byte 255 in front, behind 400", typed("1".repeat(400)), x -> x.type(255L << 56));
        Twin.state("promise 2: two bytes with zeros between, behind 399", typed("1".repeat(399)),
                x -> x.type(1L << 56 | 1));
    }

    private static void refuseTexts() {
        Twin.state("promise 6: an empty text", typed(""), x -> x.read());
        String[] texts = {
            " ", "-", "1 -", "1;", "x", "1x", "1--1", "1\t", "1000001", "-1000001", "1;1;1;1;1;1;1;1;1;1;1;1;1",
            "1 1 1 1 1 1 1 1 1 1 1 1 1", "1 2", "1;2", "1 2;3", "1 2;3 4;5 6", "1 2;3 4;"
        };
        for (String text : texts) {
            Twin.state("promise 6: " + text, typed(text), x -> x.read());
        }
    }

    private static void refuseSizes() {
        for (int size : new int[] {0, 13, -1, 14, -12, LEAST_INT, GREATEST_INT}) {
            Twin.argument("promise 7: the size " + size, AS_IT_IS, x -> x.begin(size));
        }
    }

    /** Cells that do not exist, for a size; the last rows wrap round to 0 if they are multiplied by it. */
    private static int[][] noCells(int n) {
        return new int[][] {
            {-1, 0}, {0, -1}, {n, 0}, {0, n}, {n, n}, {-1, -1}, {n - 1, n}, {n, n - 1}, {-1, n}, {n, -n}, {1, -1},
            {LEAST_INT, 0}, {0, LEAST_INT}, {GREATEST_INT, 0}, {0, GREATEST_INT}, {LEAST_INT, LEAST_INT}, {1 << 30, 0},
            {1 << 31, 0}
        };
    }

    private static void refuseCells() {
        for (int size = 1; size <= 12; size++) {
            int n = size;
            for (int[] cell : noCells(n)) {
                String name = "the size " + n + ", row " + cell[0] + ", column " + cell[1];
                Twin.Way begun = x -> x.begin(n);
                Twin.index("promise 9: " + name, begun, x -> x.at(cell[0], cell[1]));
                Twin.index("promise 10: " + name, begun, x -> x.set(cell[0], cell[1], 1));
                Twin.index("promise 10: the cell ahead of the number, " + name, begun,
                        x -> x.set(cell[0], cell[1], 1000001));
            }
        }
    }

    private static void refuseNumbers() {
        for (int number : new int[] {1000001, -1000001, LEAST_INT, GREATEST_INT}) {
            Twin.state("promise 10: the number " + number, AS_IT_IS, x -> x.set(0, 0, number));
            Twin.state("promise 10: the number in the last cell " + number, AS_IT_IS, x -> x.set(1, 1, number));
        }
    }

    private static void refuseLines() {
        for (int sort : SORTS) {
            Twin.argument("promise 11: the sort " + sort, AS_IT_IS, x -> x.sum(sort, 0));
            Twin.argument("promise 11: the sort ahead of the line, " + sort, AS_IT_IS, x -> x.sum(sort, 2));
            Twin.argument("promise 11: the sort ahead of the line, " + sort, AS_IT_IS, x -> x.sum(sort, -1));
            Twin.argument("promise 12: the sort " + sort, AS_IT_IS, x -> x.writeProduct(sort, 0));
            Twin.argument("promise 12: the sort ahead of the line, " + sort, AS_IT_IS, x -> x.writeProduct(sort, 2));
            Twin.argument("promise 12: the sort ahead of the line, " + sort, AS_IT_IS, x -> x.writeProduct(sort, -1));
        }
        for (int size = 1; size <= 12; size++) {
            int n = size;
            for (int sort = SquareWorkshop.ROW; sort <= SquareWorkshop.UP; sort++) {
                int s = sort;
                for (int line : new int[] {-1, n, -n, 2 * n, LEAST_INT, GREATEST_INT}) {
                    String name = "the size " + n + ", the sort " + s + ", the line " + line;
                    Twin.index("promise 11: " + name, x -> x.begin(n), x -> x.sum(s, line));
                    Twin.index("promise 12: " + name, x -> x.begin(n), x -> x.writeProduct(s, line));
                }
            }
        }
    }

    private static void refuseBytesOfThePage() {
        // The page of a busy workshop has the product 6 * 5 * 4 of a diagonal.
        for (int index : new int[] {-1, 3, 4, LEAST_INT, GREATEST_INT}) {
            Twin.index("promise 13: the byte " + index, AS_IT_IS, x -> x.pageAt(index));
        }
        SquareWorkshop x = new SquareWorkshop();
        for (int index : new int[] {0, -1, 1}) {
            Check.index("promise 13: an empty page, the byte " + index, () -> x.pageAt(index));
        }
        Twin.index("promise 13: a page that has become shorter", y -> y.writeProduct(SquareWorkshop.ROW, 0),
                y -> y.pageAt(2));
    }

    private static void refuseProperties() {
        for (int what : new int[] {-1, 8, LEAST_INT, GREATEST_INT}) {
            Twin.argument("promise 15: " + what, AS_IT_IS, x -> x.is(what));
        }
    }

    private static void refuseWays() {
        for (int way : new int[] {-1, 4, LEAST_INT, GREATEST_INT}) {
            for (int size = 0; size <= 13; size++) {
                int n = size;
                Twin.argument("promise 16: the way " + way + ", the size " + n, AS_IT_IS, x -> x.make(way, n));
            }
        }
        int[][] none = {
            {-1, 0, 2, 4, 6, 8, 10, 12, 13, 15, LEAST_INT, GREATEST_INT, -3},
            {-4, 0, 1, 2, 3, 5, 6, 7, 9, 10, 11, 13, 16, LEAST_INT, GREATEST_INT},
            {-6, -2, 0, 1, 2, 3, 4, 5, 7, 8, 9, 11, 12, 13, 14, LEAST_INT, GREATEST_INT},
            {-5, -1, 0, 1, 2, 3, 4, 6, 8, 9, 10, 12, 13, 17, LEAST_INT, GREATEST_INT}
        };
        for (int way = 0; way < none.length; way++) {
            int w = way;
            for (int size : none[way]) {
                Twin.argument("promise 16: the way " + w + ", the size " + size, AS_IT_IS, x -> x.make(w, size));
            }
        }
    }

    private static void refuseDrawers() {
        Twin.Way large = x -> x.begin(12);
        for (int drawer : NO_DRAWERS) {
            String name = "no drawer " + drawer;
            Twin.index("promise 17: " + name, AS_IT_IS, x -> x.multiply(drawer));
            Twin.index("promise 17: ahead of the size, " + name, large, x -> x.multiply(drawer));
            Twin.index("promise 18: " + name, AS_IT_IS, x -> x.keep(drawer));
            Twin.index("promise 19: " + name, AS_IT_IS, x -> x.take(drawer));
            Twin.index("promise 20: " + name, AS_IT_IS, x -> x.isSame(drawer));
            Twin.index("promise 27: " + name, AS_IT_IS, x -> x.add(drawer));
        }
        for (int drawer : EMPTY_DRAWERS) {
            String name = "the empty drawer " + drawer;
            Twin.element("promise 17: " + name, AS_IT_IS, x -> x.multiply(drawer));
            Twin.element("promise 17: ahead of the size, " + name, large, x -> x.multiply(drawer));
            Twin.element("promise 19: " + name, AS_IT_IS, x -> x.take(drawer));
            Twin.element("promise 20: " + name, AS_IT_IS, x -> x.isSame(drawer));
            Twin.element("promise 27: " + name, AS_IT_IS, x -> x.add(drawer));
        }
    }

    private static void refuseProducts() {
        for (int size = 1; size <= 12; size++) {
            for (int other = 1; other <= 12; other++) {
                int a = size;
                int b = other;
                Twin.Way sizes = x -> {
                    x.begin(b);
                    x.keep(1);
                    x.begin(a);
                };
                if (a * b > 12) {
                    Twin.state("promise 17: the sizes " + a + " and " + b, sizes, x -> x.multiply(1));
                }
            }
        }
        refuseProductNumbers();
    }

    private static Twin.Way kept(String inDrawer, String square) {
        return x -> {
            square(inDrawer).run(x);
            x.keep(1);
            square(square).run(x);
        };
    }

    /** Each pair, the one in the drawer first, makes one number that is 1 out of range. */
    private static void refuseProductNumbers() {
        String[][] pairs = {
            {"1000000", "2"}, {"2", "1000000"}, {"-1000000", "0"}, {"0", "-1000000"}, {"-999999", "-1"},
            {"1 0;0 0", "250001"}, {"0 0;0 1", "250001"}, {"4 4;4 5", "250000"}, {"3 4;4 4", "-250000"},
            {"0 0;0 -1", "-249999"}, {"-1 0;0 0", "-249999"}, {"1 1;1 -999997", "0"}, {"1 1;1 999997", "2"},
            {"999997 1;1 1", "2"}, {"1 0;0 0", "250001 0;0 0"}, {"0 0;0 1", "0 0;0 250001"},
            {"1 1 1;1 1 1;1 1 2", "1 1 1 1;1 1 1 1;1 1 1 1;1 1 1 111112"}, {"11 0 0;0 0 0;0 0 0", "111111"}
        };
        for (String[] each : pairs) {
            Twin.state("promise 17: " + each[1] + " by " + each[0], kept(each[0], each[1]), x -> x.multiply(1));
        }
    }

    private static void refuseSums() {
        Twin.argument("promise 27: the size 1 to the size 2", AS_IT_IS, x -> x.add(5));
        Twin.argument("promise 27: the size 3 to the size 2", AS_IT_IS, x -> x.add(2));
        Twin.argument("promise 27: the size 12 to the size 11", x -> {
            x.begin(12);
            x.keep(1);
            x.begin(11);
        }, x -> x.add(1));
        Twin.argument("promise 27: the size ahead of the numbers", kept("1000000", "1000000 0;0 0"), x -> x.add(1));
        String[][] pairs = {
            {"1", "1000000"}, {"1000000", "1"}, {"-1", "-1000000"}, {"-1000000", "-1"}, {"1000000", "1000000"},
            {"-1000000", "-1000000"}, {"1 0;0 0", "1000000 0;0 0"}, {"0 0;0 1", "0 0;0 1000000"},
            {"0 0;-1 0", "0 0;-1000000 0"}
        };
        for (String[] each : pairs) {
            Twin.state("promise 27: " + each[1] + " and " + each[0], kept(each[0], each[1]), x -> x.add(1));
        }
    }

    private static void refuseMultiples() {
        Object[][] pairs = {
            {"1", 1000001}, {"1", -1000001}, {"-1", 1000001}, {"1000000", 2}, {"1000000", -2}, {"-1000000", 2},
            {"1000", 1001}, {"1000", -1001}, {"0 0;0 3", 333334}, {"3 0;0 0", -333334}, {"1", LEAST_INT},
            {"1", GREATEST_INT}, {"65536", 65536}, {"4", 1 << 30}, {"-1000000", LEAST_INT}, {"2", LEAST_INT},
            {"1000000", GREATEST_INT}
        };
        for (Object[] each : pairs) {
            Twin.state("promise 28: " + each[0] + " by " + each[1], square((String) each[0]),
                    x -> x.times((Integer) each[1]));
        }
    }

    private static void refuseExchanges() {
        for (int size = 1; size <= 12; size++) {
            int n = size;
            Twin.Way begun = x -> x.begin(n);
            int middle = n / 2;
            int[][] none = {{-1, 0}, {0, -1}, {n, 0}, {0, n}, {n, n}, {-1, -1}, {-1, n}, {-1, middle}, {middle, n},
                {n, -1}, {LEAST_INT, 0}, {0, LEAST_INT}, {GREATEST_INT, 0}, {0, GREATEST_INT}};
            for (int[] rows : none) {
                Twin.index("promise 23: the size " + n + ", " + rows[0] + " and " + rows[1], begun,
                        x -> x.exchange(rows[0], rows[1]));
            }
            for (int row = 0; row < n && n % 2 == 1; row++) {
                int other = row;
                if (row != middle) {
                    String name = "promise 23: the size " + n + ", the middle row and " + row;
                    Twin.argument(name, begun, x -> x.exchange(middle, other));
                    Twin.argument(name, begun, x -> x.exchange(other, middle));
                }
            }
        }
    }

    private static void refuseRooms() {
        for (int size : new int[] {0, 7, -1, LEAST_INT, GREATEST_INT}) {
            for (int what = -1; what <= 8; what++) {
                int w = what;
                Twin.argument("promise 29: the size " + size + ", " + w, AS_IT_IS, x -> x.dimension(size, w));
            }
        }
        int[] none = {-1, SquareWorkshop.NORMAL, SquareWorkshop.SQUARED, SquareWorkshop.TIMES, SquareWorkshop.UNLIKE, 8,
            LEAST_INT, GREATEST_INT};
        for (int what : none) {
            for (int size = 1; size <= 6; size++) {
                int n = size;
                Twin.argument("promise 29: the property " + what + ", " + n, AS_IT_IS, x -> x.dimension(n, what));
            }
        }
    }

    private static void noFillings(String name, Twin.Way ahead) {
        Twin.state("promise 30: " + name, ahead, x -> x.fillings());
        for (int index : new int[] {0, -1, GREATEST_INT, LEAST_INT}) {
            Twin.state("promise 31: " + name + ", the filling " + index, ahead, x -> x.fill(index));
        }
    }

    private static void refuseFillings() {
        for (int size = 1; size <= 12; size++) {
            int n = size;
            if (n != 3) {
                noFillings("zeros of the size " + n, x -> x.begin(n));
            }
            if (n != 3 && n % 2 == 1) {
                noFillings("ODD of the size " + n, x -> x.make(SquareWorkshop.ODD, n));
            }
        }
        String[] squares = {
            "10 0 0;0 0 0;0 0 0", "0 0 0;0 0 0;0 0 10", "-1 0 0;0 0 0;0 0 0", "0 0 0;0 0 0;0 0 -1", "9 9 0;0 0 0;0 0 0",
            "1 0 0;0 0 0;0 0 1", "8 1 6;3 5 7;4 9 8", "8 1 6;3 5 7;4 9 10", "1000000 0 0;0 0 0;0 0 0",
            "0 0 0;0 -1000000 0;0 0 0", "0 0 0;0 32 0;0 0 0", "33 1 0;0 0 0;0 0 0",
            "1 0 0 0;0 0 0 0;0 0 0 0;0 0 0 0", "1 2 0 0;0 0 0 0;0 0 0 0;0 0 0 0", "1 0 0 0;0 2 0 0;0 0 0 0;0 0 0 3",
            "17 2 3 4;0 0 0 0;0 0 0 0;0 0 0 0", "1 2 3 0;0 0 0 0;0 0 0 0;0 0 0 17", "-1 2 3 4;0 0 0 0;0 0 0 0;0 0 0 0",
            "1 2 3 0;0 0 0 0;0 0 0 0;0 0 0 -4", "1 2 3 3;0 0 0 0;0 0 0 0;0 0 0 0", "16 0 0 0;0 1 2 0;0 0 0 0;3 0 0 16",
            "1 2 3 4;5 6 7 8;9 10 11 12;13 14 15 15", "1 2 3 4;5 6 7 8;9 10 11 12;13 14 15 17"
        };
        for (String each : squares) {
            noFillings(each, square(each));
        }
        String[] whole = {"0 0 0;0 0 0;0 0 0", "0 0 0;0 4 0;0 0 0", "8 1 6;3 5 7;4 9 2",
            "16 3 2 13;5 10 11 8;9 6 7 12;4 15 14 1"};
        int[] counts = {8, 0, 1, 1};
        for (int each = 0; each < whole.length; each++) {
            for (int index : new int[] {counts[each], -1, GREATEST_INT, LEAST_INT, 1000000, 7040}) {
                Twin.index("promise 31: " + whole[each] + ", no filling " + index, square(whole[each]),
                        x -> x.fill(index));
            }
        }
    }

    private static void refuseHexagonCells() {
        for (int cell : new int[] {-1, 19, LEAST_INT, GREATEST_INT}) {
            Twin.index("promise 33: the cell " + cell, AS_IT_IS, x -> x.hexAt(cell));
            Twin.index("promise 34: the cell " + cell, AS_IT_IS, x -> x.hexSet(cell, 1));
            Twin.index("promise 34: the cell ahead of the number, " + cell, AS_IT_IS, x -> x.hexSet(cell, 20));
            Twin.index("promise 34: the cell ahead of the number, " + cell, AS_IT_IS, x -> x.hexSet(cell, -1));
            Twin.index("promise 34: the cell ahead of the other cell, " + cell, AS_IT_IS, x -> x.hexSet(cell, 19));
        }
        for (int number : new int[] {-1, 20, LEAST_INT, GREATEST_INT}) {
            for (int cell : new int[] {0, 4, 9, 18}) {
                Twin.argument("promise 34: the number " + number, AS_IT_IS, x -> x.hexSet(cell, number));
            }
        }
        for (int cell = 0; cell < 19; cell++) {
            int each = cell;
            if (cell != 4) {
                Twin.state("promise 34: the cell 4 has 7, and not " + cell, AS_IT_IS, x -> x.hexSet(each, 7));
            }
            if (cell != 9) {
                Twin.state("promise 34: the cell 9 has 19, and not " + cell, AS_IT_IS, x -> x.hexSet(each, 19));
            }
        }
        for (int line : new int[] {-1, 15, LEAST_INT, GREATEST_INT}) {
            Twin.index("promise 35: the line " + line, AS_IT_IS, x -> x.hexSum(line));
        }
    }

    private static void refuseHexagonFillings() {
        Twin.Way[] tooFew = {
            AS_IT_IS,
            x -> x.hexSet(4, 0),
            x -> {
                x.hexSet(4, 0);
                x.hexSet(9, 0);
            },
            x -> {
                x.hexSet(0, 3);
                x.hexSet(9, 0);
            }
        };
        for (Twin.Way ahead : tooFew) {
            Twin.state("promise 36: fewer than 3 cells", ahead, x -> x.hexFillings());
            for (int index : new int[] {0, -1, 12, LEAST_INT, GREATEST_INT}) {
                Twin.state("promise 37: fewer than 3 cells, the filling " + index, ahead, x -> x.hexFill(index));
            }
        }
        // 3 17 18 are the first cells of the first filling, and of no other one; 1 2 3 of none.
        int[][] rows = {{3, 17, 18}, {1, 2, 3}};
        for (int each = 0; each < rows.length; each++) {
            int[] row = rows[each];
            Twin.Way ahead = x -> {
                x.hexSet(4, 0);
                x.hexSet(9, 0);
                for (int cell = 0; cell < 3; cell++) {
                    x.hexSet(cell, row[cell]);
                }
            };
            for (int index : new int[] {1 - each, -1, 12, LEAST_INT, GREATEST_INT}) {
                Twin.index("promise 37: no filling " + index + " of " + row[0], ahead, x -> x.hexFill(index));
            }
        }
    }

    private static void refuseCubes() {
        for (int size : new int[] {-5, -3, -1, 0, 1, 2, 4, 6, 7, LEAST_INT, GREATEST_INT}) {
            Twin.argument("promise 38: the size " + size, AS_IT_IS, x -> x.cubeAt(size, 0, 0, 0));
            Twin.argument("promise 38: the size ahead of the cell, " + size, AS_IT_IS, x -> x.cubeAt(size, -1, 9, 9));
            Twin.argument("promise 39: the size " + size, AS_IT_IS, x -> x.cubeErrors(size));
        }
        for (int size : new int[] {3, 5}) {
            for (int no : new int[] {-1, size, -size, LEAST_INT, GREATEST_INT}) {
                int last = size - 1;
                String name = "promise 38: the size " + size + ", no cell " + no;
                Twin.index(name, AS_IT_IS, x -> x.cubeAt(size, no, 0, last));
                Twin.index(name, AS_IT_IS, x -> x.cubeAt(size, last, no, 0));
                Twin.index(name, AS_IT_IS, x -> x.cubeAt(size, 0, last, no));
                Twin.index(name, AS_IT_IS, x -> x.cubeAt(size, no, no, no));
            }
        }
    }

    private static Twin.Way game(int... numbers) {
        return x -> {
            x.newGame();
            for (int number : numbers) {
                x.pick(number);
            }
        };
    }

    private static void refusePicks() {
        for (int number : new int[] {0, 10, -1, 5, 2, 32, 33, 34, 37, -27, LEAST_INT, GREATEST_INT}) {
            Twin.argument("promise 40: " + number, AS_IT_IS, x -> x.pick(number));
        }
        // Won by the one player and by the other one, won with the last number, and won by nobody.
        int[][] over = {{1, 2, 5, 3, 9}, {1, 4, 2, 5, 3, 6}, {1, 5, 2, 6, 3, 7, 4, 8, 9}, {8, 1, 6, 5, 3, 7, 9, 4, 2}};
        for (int[] numbers : over) {
            Twin.Way ended = game(numbers);
            Twin.state("promise 44: a game that is over", ended, x -> x.bestPick());
            for (int number = -1; number <= 11; number++) {
                int each = number;
                boolean isFree = number >= 1 && number <= 9;
                for (int taken : numbers) {
                    isFree &= taken != number;
                }
                String name = "promise 40: a game that is over, the number " + number;
                if (isFree) {
                    Twin.state(name, ended, x -> x.pick(each));
                } else {
                    Twin.argument(name, ended, x -> x.pick(each));
                }
            }
        }
    }
}
