/** The bounds of section 5 and of promises 30, 31 and 33 to 37: what is filled up, the first and the last filling. */
public final class FillingsBoundsTest {
    private static final int[] HEXAGON = {3, 17, 18, 19, 7, 1, 11, 16, 2, 5, 6, 9, 12, 4, 8, 14, 10, 13, 15};
    private static final Twin.Way AS_IT_IS = x -> { };

    public static void main(String[] args) {
        checkSizes();
        checkCellsOfThree();
        checkCellsOfFour();
        checkNumbers();
        checkOneCell();
        checkOrder();
        checkFilling();
        checkHexagonCells();
        checkHexagonNumbers();
        checkHexagonLines();
        checkHexagonFillings();
        checkHexagonOrder();
        checkThatNothingChanges();
        Check.finish();
    }

    private static void count(String square, int want) {
        SquareWorkshop x = Check.with(square);
        Check.due("promise 30: the fillings of " + square, want, x::fillings);
        if (want > 0) {
            Check.due("promise 31: the last filling of " + square, true, () -> x.fill(want - 1) > 0);
            Check.due("promise 31: it is NORMAL", true, () -> x.is(SquareWorkshop.NORMAL));
            Check.due("promise 31: it is CONSTANT", true, () -> x.is(SquareWorkshop.CONSTANT));
            x.undo();
        }
        Check.index("promise 31: behind the last filling of " + square, () -> x.fill(want));
        Check.index("promise 31: the filling -1 of " + square, () -> x.fill(-1));
        Check.due("promise 31: it leaves " + square, square, () -> Check.square(x));
    }

    private static void refused(String square) {
        SquareWorkshop x = Check.with(square);
        Check.state("promise 30: " + square, x::fillings);
        Check.state("promise 31: " + square, () -> x.fill(0));
        Check.state("promise 31: ahead of the filling, " + square, () -> x.fill(-1));
        Check.due("promise 31: it leaves " + square, square, () -> Check.square(x));
    }

    private static void checkSizes() {
        for (int size = 1; size <= 12; size++) {
            SquareWorkshop x = new SquareWorkshop();
            x.begin(size);
            for (int cell = 0; cell < Math.min(4, size * size); cell++) {
                x.set(cell / size, cell % size, cell + 1);
            }
            if (size == 3 || size == 4) {
                Check.due("promise 30: the size " + size, 0, x::fillings);
                Check.index("promise 31: the size " + size, () -> x.fill(0));
            } else {
                Check.state("promise 30: the size " + size, x::fillings);
                Check.state("promise 31: the size " + size, () -> x.fill(0));
            }
        }
        refused("1 2;3 4");
        refused("17 24 1 8 15;23 5 7 14 16;4 6 13 20 22;10 12 19 21 3;11 18 25 2 9");
    }

    /** Of the size 3 any cells may be 0, from none to all. */
    private static void checkCellsOfThree() {
        count("0 0 0;0 0 0;0 0 0", 8);
        count("0 0 0;0 5 0;0 0 0", 8);
        count("8 0 0;0 0 0;0 0 0", 2);
        count("0 0 0;0 0 0;0 0 9", 0);
        count("0 9 0;0 0 0;0 0 0", 2);
        count("8 1 0;0 0 0;0 0 0", 1);
        count("8 1 6;3 5 7;4 9 0", 1);
        count("8 1 6;3 5 7;4 9 2", 1);
        count("1 2 3;4 5 6;7 8 9", 0);
        count("8 1 6;3 5 7;4 2 9", 0);
        // ROWs and COLUMNs of these are right, and one diagonal, or both, is not.
        count("8 1 6;4 9 2;3 5 7", 0);
        count("1 8 6;5 3 7;9 4 2", 0);
        count("1 5 9;6 7 2;8 3 4", 0);
    }

    /** Of the size 4 four cells that are not 0 are enough, and three are too few, wherever they stand. */
    private static void checkCellsOfFour() {
        refused("0 0 0 0;0 0 0 0;0 0 0 0;0 0 0 0");
        refused("16 0 0 0;0 0 0 0;0 0 0 0;0 0 0 0");
        refused("16 3 0 0;0 0 0 0;0 0 0 0;0 0 0 0");
        refused("16 3 2 0;0 0 0 0;0 0 0 0;0 0 0 0");
        refused("0 0 0 0;0 0 0 0;0 0 0 0;0 15 14 1");
        count("1 2 3 4;0 0 0 0;0 0 0 0;0 0 0 0", 0);
        count("0 0 0 0;0 0 0 0;0 0 0 0;1 2 3 4", 0);
        count("16 3 2 13;5 10 11 8;9 6 7 12;4 15 14 1", 1);
        count("16 3 2 13;5 10 11 8;9 6 7 12;4 15 14 0", 1);
        count("0 3 2 13;5 10 11 8;9 6 7 12;4 15 14 1", 1);
        count("16 3 2 13;5 10 11 8;9 6 7 12;4 15 1 14", 0);
        count("1 2 3 4;5 6 7 8;9 10 11 12;13 14 15 16", 0);
        SquareWorkshop four = Check.with("16 0 0 13;0 0 0 0;0 0 0 0;4 0 0 1");
        int all = four.fillings();
        Check.due("promise 30: four corners have some fillings", true, () -> all > 1);
        Check.due("promise 31: the last one", 16, () -> four.fill(all - 1));
        four.undo();
        Check.index("promise 31: the one behind it", () -> four.fill(all));
        SquareWorkshop lastRow = Check.with("0 0 0 0;0 0 0 0;0 0 0 0;4 15 14 1");
        Check.due("promise 30: four cells of the last row", true, () -> lastRow.fillings() > 1);
        lastRow.set(3, 0, 0);
        Check.state("promise 30: three of them", lastRow::fillings);
        Check.state("promise 31: three of them", () -> lastRow.fill(0));
        lastRow.set(0, 0, 16);
        Check.due("promise 30: and one of the first row", true, () -> lastRow.fillings() > 1);
    }

    private static void checkNumbers() {
        count("0 9 0;0 0 0;0 1 0", 2);
        refused("0 10 0;0 0 0;0 0 0");
        refused("0 -1 0;0 0 0;0 0 0");
        refused("0 1 0;0 0 0;0 1 0");
        refused("9 9 0;0 0 0;0 0 0");
        refused("0 0 0;0 0 0;0 10 0");
        refused("0 0 0;0 0 0;0 0 1000000");
        refused("-1000000 0 0;0 0 0;0 0 0");
        refused("1 2 3 17;0 0 0 0;0 0 0 0;0 0 0 0");
        refused("1 2 3 -1;4 0 0 0;0 0 0 0;0 0 0 0");
        refused("1 2 3 4;0 0 0 0;0 0 0 0;0 0 0 1");
        refused("16 3 2 13;0 0 0 0;0 0 0 0;0 0 0 16");
        refused("1 1 1 1;0 0 0 0;0 0 0 0;0 0 0 0");
        refused("16 3 2 13;5 10 11 8;9 6 7 12;4 15 14 14");
        refused("16 3 2 13;5 10 11 8;9 6 7 12;4 15 14 17");
        refused("16 3 2 13;5 10 11 8;9 6 7 12;4 15 14 -1");
        // Three cells that are not 0 are too few, even if one of them is out of range, or they are the same.
        refused("17 0 0 0;0 0 0 0;0 0 0 0;0 0 0 0");
        refused("5 5 5 0;0 0 0 0;0 0 0 0;0 0 0 0");
    }

    /** Each cell of a square, with each number from -1 to 10: the eight squares tell how many fillings there are. */
    private static void checkOneCell() {
        String[] all = {"276951438", "294753618", "438951276", "492357816", "618753294", "672159834", "816357492",
            "834159672"};
        for (int cell = 0; cell < 9; cell++) {
            for (int number = -1; number <= 10; number++) {
                SquareWorkshop x = new SquareWorkshop();
                x.begin(3);
                x.set(cell / 3, cell % 3, number);
                int want = 0;
                for (String each : all) {
                    want += number == 0 || each.charAt(cell) - '0' == number ? 1 : 0;
                }
                int count = want;
                String name = "promise 30: " + number + " in the cell " + cell;
                if (number < 0 || number > 9) {
                    Check.state(name, x::fillings);
                    Check.state(name + ", filled", () -> x.fill(0));
                } else {
                    Check.due(name, count, x::fillings);
                    Check.index(name + ", behind the last filling", () -> x.fill(count));
                }
            }
        }
    }

    private static void filling(String square, int index, String want) {
        SquareWorkshop x = Check.with(square);
        Check.due("promise 31: the number in row 0 and column 0", Integer.parseInt(want.split(" ")[0]),
                () -> x.fill(index));
        Check.due("promise 31: the filling " + index + " of " + square, want, () -> Check.square(x));
        Check.due("promise 31: it is a change", 1, x::undo);
        Check.due("promise 31: it is undone", square, () -> Check.square(x));
    }

    private static void checkOrder() {
        String zeros = "0 0 0;0 0 0;0 0 0";
        filling(zeros, 0, "2 7 6;9 5 1;4 3 8");
        filling(zeros, 1, "2 9 4;7 5 3;6 1 8");
        filling(zeros, 6, "8 1 6;3 5 7;4 9 2");
        filling(zeros, 7, "8 3 4;1 5 9;6 7 2");
        filling("0 0 0;0 0 0;0 0 2", 0, "8 1 6;3 5 7;4 9 2");
        filling("0 0 0;0 0 0;0 0 2", 1, "8 3 4;1 5 9;6 7 2");
        filling("0 0 6;0 0 0;0 0 0", 0, "2 7 6;9 5 1;4 3 8");
        filling("0 0 6;0 0 0;0 0 0", 1, "8 1 6;3 5 7;4 9 2");
        filling("8 1 6;3 5 7;4 9 2", 0, "8 1 6;3 5 7;4 9 2");
        String four = "16 3 2 13;0 0 0 0;0 0 0 0;0 0 0 1";
        SquareWorkshop x = Check.with(four);
        int all = x.fillings();
        String before = "";
        for (int index = 0; index < all; index++) {
            x.fill(index);
            StringBuilder numbers = new StringBuilder();
            for (int cell = 0; cell < 16; cell++) {
                numbers.append((char) ('a' + x.at(cell / 4, cell % 4)));
            }
            String last = before;
            before = numbers.toString();
            Check.due("promise 31: " + index + " stands behind the one ahead", true,
                    () -> last.compareTo(numbers.toString()) < 0);
            x.undo();
        }
    }

    private static void checkFilling() {
        SquareWorkshop x = Check.with("0 0 0;0 0 0;0 0 0");
        x.keep(0);
        x.fill(7);
        Check.due("promise 30: a filled square has one filling, itself", 1, x::fillings);
        Check.index("promise 31: and no other one", () -> x.fill(1));
        x.set(0, 0, 0);
        Check.due("promise 30: one cell emptied", 1, x::fillings);
        x.set(0, 0, 9);
        Check.state("promise 30: one cell with a number that another one has", x::fillings);
        x.set(1, 2, 8);
        Check.due("promise 30: two cells exchanged", 0, x::fillings);
        x.take(0);
        Check.due("promise 31: the drawer has the square as it was", 8, x::fillings);
    }

    private static void checkHexagonCells() {
        SquareWorkshop x = new SquareWorkshop();
        for (int cell = 0; cell < 19; cell++) {
            int each = cell;
            Check.due("section 5: the cell " + cell + " has 0 at first", 0, () -> x.hexAt(each));
        }
        Check.due("promise 34: the first cell", 0, () -> x.hexSet(0, 1));
        Check.due("promise 34: the last cell", 0, () -> x.hexSet(18, 19));
        Check.due("promise 33: the first cell", 1, () -> x.hexAt(0));
        Check.due("promise 33: the last cell", 19, () -> x.hexAt(18));
        for (int cell : new int[] {-1, 19}) {
            Check.index("promise 33: the cell " + cell, () -> x.hexAt(cell));
            Check.index("promise 34: the cell " + cell, () -> x.hexSet(cell, 5));
            Check.index("promise 34: the cell ahead of the number, " + cell, () -> x.hexSet(cell, 20));
            Check.index("promise 34: the cell ahead of the other cell, " + cell, () -> x.hexSet(cell, 19));
        }
    }

    private static void checkHexagonNumbers() {
        SquareWorkshop x = new SquareWorkshop();
        for (int number = 0; number <= 19; number++) {
            int before = Math.max(0, number - 1);
            int each = number;
            Check.due("promise 34: the number " + number, before, () -> x.hexSet(9, each));
            Check.due("promise 33: the number " + number, number, () -> x.hexAt(9));
        }
        Check.argument("promise 34: the number 20", () -> x.hexSet(9, 20));
        Check.argument("promise 34: the number -1", () -> x.hexSet(9, -1));
        Check.due("promise 34: its own number once more", 19, () -> x.hexSet(9, 19));
        Check.state("promise 34: the number of the cell 9", () -> x.hexSet(8, 19));
        Check.state("promise 34: the number of the cell 9", () -> x.hexSet(10, 19));
        Check.due("promise 34: it stays", 0, () -> x.hexAt(8) + x.hexAt(10));
        Check.due("promise 34: 0 in place of it", 19, () -> x.hexSet(9, 0));
        Check.due("promise 34: 0 once more", 0, () -> x.hexSet(9, 0));
        Check.due("promise 34: the number is free then", 0, () -> x.hexSet(8, 19));
        Check.due("promise 34: another number in its place", 19, () -> x.hexSet(8, 18));
        Check.due("promise 34: the first number is free again", 0, () -> x.hexSet(10, 19));
        for (int cell = 0; cell < 19; cell++) {
            int each = cell;
            Check.due("promise 34: 0 may stand in many cells", true, () -> x.hexSet(each, 0) >= 0);
        }
        for (int cell = 0; cell < 19; cell++) {
            int each = cell;
            Check.due("promise 34: all numbers", 0, () -> x.hexSet(each, 19 - each));
        }
        for (int cell = 0; cell < 19; cell++) {
            for (int other = 0; other < 19; other++) {
                int each = cell;
                int number = 19 - other;
                if (cell != other) {
                    Check.state("promise 34: the cell " + other + " has it", () -> x.hexSet(each, number));
                }
            }
            int own = 19 - cell;
            int each = cell;
            Check.due("promise 34: its own number stays", own, () -> x.hexAt(each));
        }
    }

    private static void checkHexagonLines() {
        int[][] lines = {
            {0, 1, 2}, {3, 4, 5, 6}, {7, 8, 9, 10, 11}, {12, 13, 14, 15}, {16, 17, 18},
            {7, 12, 16}, {3, 8, 13, 17}, {0, 4, 9, 14, 18}, {1, 5, 10, 15}, {2, 6, 11},
            {0, 3, 7}, {1, 4, 8, 12}, {2, 5, 9, 13, 16}, {6, 10, 14, 17}, {11, 15, 18}
        };
        for (int cell = 0; cell < 19; cell++) {
            SquareWorkshop x = new SquareWorkshop();
            x.hexSet(cell, 19);
            for (int line = 0; line < 15; line++) {
                int sum = 0;
                for (int each : lines[line]) {
                    sum += each == cell ? 19 : 0;
                }
                int want = sum;
                int each = line;
                Check.due("promise 35: the line " + line + " and the cell " + cell, want, () -> x.hexSum(each));
            }
        }
        SquareWorkshop x = new SquareWorkshop();
        Check.due("promise 35: the first line", 0, () -> x.hexSum(0));
        Check.due("promise 35: the last line", 0, () -> x.hexSum(14));
        Check.index("promise 35: the line -1", () -> x.hexSum(-1));
        Check.index("promise 35: the line 15", () -> x.hexSum(15));
    }

    private static SquareWorkshop hexagon(int cells) {
        SquareWorkshop x = new SquareWorkshop();
        for (int cell = 0; cell < cells; cell++) {
            x.hexSet(cell, HEXAGON[cell]);
        }
        return x;
    }

    private static void checkHexagonFillings() {
        for (int cells = 0; cells <= 19; cells++) {
            SquareWorkshop x = hexagon(cells);
            String name = cells + " cells";
            if (cells < 3) {
                Check.state("promise 36: " + name, x::hexFillings);
                Check.state("promise 37: " + name, () -> x.hexFill(0));
                Check.state("promise 37: ahead of the filling, " + name, () -> x.hexFill(-1));
                Check.due("promise 37: it changes nothing", 0, () -> x.hexAt(18));
            } else {
                Check.due("promise 36: " + name, 1, x::hexFillings);
                Check.index("promise 37: behind the last one, " + name, () -> x.hexFill(1));
                Check.index("promise 37: the filling -1, " + name, () -> x.hexFill(-1));
                Check.due("promise 37: it changes nothing", cells < 19 ? 0 : 15, () -> x.hexAt(18));
                Check.due("promise 37: " + name, 3, () -> x.hexFill(0));
                for (int cell = 0; cell < 19; cell++) {
                    int each = cell;
                    Check.due("promise 37: the cell " + cell, HEXAGON[cell], () -> x.hexAt(each));
                }
                for (int line = 0; line < 15; line++) {
                    int each = line;
                    Check.due("promise 37: the line " + line, 38, () -> x.hexSum(each));
                }
            }
        }
        SquareWorkshop ends = new SquareWorkshop();
        ends.hexSet(0, 3);
        ends.hexSet(9, 5);
        Check.state("promise 36: two cells", ends::hexFillings);
        ends.hexSet(18, 15);
        Check.due("promise 36: the first one, the middle one and the last one", 2, ends::hexFillings);
        ends.hexSet(9, 0);
        Check.state("promise 36: two of them again", ends::hexFillings);
        ends.hexSet(9, 4);
        Check.due("promise 36: another number in the middle", 0, ends::hexFillings);
        Check.index("promise 37: there is none", () -> ends.hexFill(0));
        for (int cell = 0; cell < 19; cell++) {
            // One cell has the number of another one, which is empty: all others are as in a filling.
            int other = (cell + 1) % 19;
            SquareWorkshop x = hexagon(19);
            x.hexSet(other, 0);
            Check.due("promise 36: the cell " + other + " is empty", 1, x::hexFillings);
            x.hexSet(cell, HEXAGON[other]);
            Check.due("promise 36: another number in the cell " + cell, 0, x::hexFillings);
        }
        SquareWorkshop wrong = hexagon(17);
        wrong.hexSet(17, 15);
        wrong.hexSet(18, 13);
        Check.due("promise 36: a full hexagon with two cells exchanged", 0, wrong::hexFillings);
        Check.index("promise 37: it has no filling", () -> wrong.hexFill(0));
    }

    /** The middle cell has 5 in all twelve fillings; three cells near it leave some of them, in their order. */
    private static void checkHexagonOrder() {
        SquareWorkshop x = new SquareWorkshop();
        x.hexSet(9, 5);
        x.hexSet(0, 3);
        x.hexSet(18, 15);
        Check.due("promise 37: the first one", 3, () -> x.hexFill(0));
        Check.due("promise 37: its cell 1", 17, () -> x.hexAt(1));
        SquareWorkshop y = new SquareWorkshop();
        y.hexSet(9, 5);
        y.hexSet(0, 3);
        y.hexSet(18, 15);
        Check.due("promise 37: the last one", 3, () -> y.hexFill(1));
        Check.due("promise 37: its cell 1", 19, () -> y.hexAt(1));
        SquareWorkshop z = new SquareWorkshop();
        z.hexSet(9, 5);
        z.hexSet(0, 3);
        z.hexSet(18, 15);
        Check.index("promise 37: the one behind it", () -> z.hexFill(2));
        Check.due("promise 37: it changes nothing", 0, () -> z.hexAt(1));
        Check.due("promise 45: none of these is a change of the square", SquareWorkshop.NONE, z::undo);
        Check.due("promise 45: nor is a filling", SquareWorkshop.NONE, y::undo);
    }

    private static void checkThatNothingChanges() {
        Twin.Way three = x -> x.begin(3);
        Twin.same("promise 30: fillings", 8, three, x -> x.fillings());
        Twin.same("promise 30: fillings of a full square", 1, x -> x.make(SquareWorkshop.CROSS, 4), x -> x.fillings());
        Twin.same("promise 33: hexAt", 19, AS_IT_IS, x -> x.hexAt(9));
        Twin.same("promise 34: the number that is there", 19, AS_IT_IS, x -> x.hexSet(9, 19));
        Twin.same("promise 35: hexSum", 26, AS_IT_IS, x -> x.hexSum(7));
        Twin.same("promise 36: hexFillings", 0, x -> x.hexSet(0, 1), x -> x.hexFillings());
        Twin.same("promise 37: a full hexagon is its filling", 3, x -> {
            x.hexSet(9, 0);
            for (int cell = 0; cell < 19; cell++) {
                x.hexSet(cell, HEXAGON[cell]);
            }
        }, x -> x.hexFill(0));
    }
}
