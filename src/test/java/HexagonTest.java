import java.util.ArrayList;
import java.util.List;

/** Promises 33 to 37: the hexagon, and that it has just the fillings that a search finds. */
public final class HexagonTest {
    static final int[][] LINES = {
        {0, 1, 2}, {3, 4, 5, 6}, {7, 8, 9, 10, 11}, {12, 13, 14, 15}, {16, 17, 18},
        {7, 12, 16}, {3, 8, 13, 17}, {0, 4, 9, 14, 18}, {1, 5, 10, 15}, {2, 6, 11},
        {0, 3, 7}, {1, 4, 8, 12}, {2, 5, 9, 13, 16}, {6, 10, 14, 17}, {11, 15, 18}
    };
    private static final int[] CELLS = {0, -1, 19, Integer.MIN_VALUE, Integer.MAX_VALUE};

    public static void main(String[] args) {
        checkCells();
        checkSums();
        List<int[]> all = new ArrayList<>();
        search(new int[19], 0, all);
        Check.due("all fillings of the empty hexagon", 12, all::size);
        checkFillings(all);
        checkRefused();
        Check.finish();
    }

    private static void checkCells() {
        SquareWorkshop x = new SquareWorkshop();
        for (int cell = 0; cell < 19; cell++) {
            int each = cell;
            Check.due("promise 33: at first", 0, () -> x.hexAt(each));
            Check.due("promise 34: the number before", 0, () -> x.hexSet(each, 19 - each));
            Check.due("promise 33: the number", 19 - each, () -> x.hexAt(each));
        }
        Check.due("promise 34: the same number once more", 19, () -> x.hexSet(0, 19));
        Check.due("promise 34: 0", 19, () -> x.hexSet(0, 0));
        Check.due("promise 34: 0 twice", 18, () -> x.hexSet(1, 0));
        Check.due("promise 34: a number that is free", 17, () -> x.hexSet(2, 19));
        Check.state("promise 34: another cell has it", () -> x.hexSet(1, 19));
        Check.due("promise 34: nothing is changed", 0, () -> x.hexAt(1));
        SquareWorkshop y = new SquareWorkshop();
        y.hexSet(0, 7);
        Check.state("promise 34: the first cell has it", () -> y.hexSet(18, 7));
        y.hexSet(0, 0);
        y.hexSet(18, 7);
        Check.state("promise 34: the last cell has it", () -> y.hexSet(0, 7));
        for (int each = 1; each < CELLS.length; each++) {
            int cell = CELLS[each];
            Check.index("promise 33: no such cell", () -> x.hexAt(cell));
            Check.index("promise 34: no such cell", () -> x.hexSet(cell, 1));
            Check.index("promise 34: the first of two exceptions", () -> x.hexSet(cell, 20));
        }
        for (int number : new int[] {-1, 20, Integer.MIN_VALUE, Integer.MAX_VALUE}) {
            Check.argument("promise 34: no such number", () -> x.hexSet(0, number));
        }
        Check.due("promise 34: nothing is changed", 0, () -> x.hexAt(0));
        Check.due("promise 45: no changes of the square", -1, x::undo);
    }

    private static void checkSums() {
        SquareWorkshop x = new SquareWorkshop();
        for (int cell = 0; cell < 19; cell++) {
            x.hexSet(cell, (7 * cell) % 19 + 1);
        }
        for (int line = 0; line < 15; line++) {
            int each = line;
            int sum = 0;
            for (int cell : LINES[line]) {
                sum += (7 * cell) % 19 + 1;
            }
            Check.due("promise 35: the line " + line, sum, () -> x.hexSum(each));
        }
        for (int line : new int[] {-1, 15, Integer.MIN_VALUE, Integer.MAX_VALUE}) {
            Check.index("promise 35: no such line", () -> x.hexSum(line));
        }
        Check.due("promise 35: an empty hexagon", 0, () -> new SquareWorkshop().hexSum(7));
    }

    static void search(int[] cells, int from, List<int[]> all) {
        int cell = from;
        while (cell < 19 && cells[cell] != 0) {
            cell++;
        }
        if (cell == 19) {
            all.add(cells.clone());
            return;
        }
        for (int number = 1; number <= 19; number++) {
            int[] next = cells.clone();
            next[cell] = number;
            if (!has(cells, number) && follow(next)) {
                search(next, cell + 1, all);
            }
        }
    }

    private static boolean has(int[] cells, int number) {
        for (int each : cells) {
            if (each == number) {
                return true;
            }
        }
        return false;
    }

    /** Puts the last number of each line that has all others; false if a line cannot have the sum 38. */
    private static boolean follow(int[] cells) {
        for (boolean again = true; again;) {
            again = false;
            for (int[] line : LINES) {
                int left = 38;
                int open = 0;
                int empty = -1;
                for (int cell : line) {
                    left -= cells[cell];
                    open += cells[cell] == 0 ? 1 : 0;
                    empty = cells[cell] == 0 ? cell : empty;
                }
                if (open == 0 && left != 0 || open == 1 && (left < 1 || left > 19 || has(cells, left))) {
                    return false;
                }
                if (open == 1) {
                    cells[empty] = left;
                    again = true;
                }
            }
        }
        return true;
    }

    private static void checkFillings(List<int[]> all) {
        long seed = 7;
        for (int round = 0; round < 600; round++) {
            SquareWorkshop x = new SquareWorkshop();
            int[] given = new int[19];
            for (int chosen = 0; chosen < 3 + round % 4;) {
                seed = seed * 6364136223846793005L + 1442695040888963407L;
                int cell = (int) (seed >>> 33) % 19;
                // One time in four a number that may have no filling.
                int number = round % 4 == 3 && chosen == 0 ? 1 + (int) (seed >>> 40) % 19 : all.get(round % 12)[cell];
                if (given[cell] == 0 && !has(given, number)) {
                    given[cell] = number;
                    x.hexSet(cell, number);
                    chosen++;
                }
            }
            compare(x, given, all);
        }
    }

    private static void compare(SquareWorkshop x, int[] given, List<int[]> all) {
        int count = 0;
        for (int[] each : all) {
            boolean fits = true;
            for (int cell = 0; cell < 19; cell++) {
                fits &= given[cell] == 0 || given[cell] == each[cell];
            }
            if (fits) {
                int index = count;
                Check.due("promise 37: the number in the cell 0", each[0], () -> x.hexFill(index));
                for (int cell = 0; cell < 19; cell++) {
                    int at = cell;
                    Check.due("promise 37: the cell " + at, each[at], () -> x.hexAt(at));
                }
                Check.due("promise 36: a full hexagon", 1, x::hexFillings);
                for (int cell = 0; cell < 19; cell++) {
                    x.hexSet(cell, given[cell]);
                }
                count++;
            }
        }
        int end = count;
        Check.due("promise 36: how many", end, x::hexFillings);
        Check.index("promise 37: behind the last one", () -> x.hexFill(end));
        Check.index("promise 37: -1", () -> x.hexFill(-1));
        for (int cell = 0; cell < 19; cell++) {
            int at = cell;
            Check.due("promise 37: what throws changes nothing", given[at], () -> x.hexAt(at));
        }
    }

    private static void checkRefused() {
        SquareWorkshop x = new SquareWorkshop();
        Check.state("promise 36: no cell", x::hexFillings);
        Check.state("promise 37: no cell", () -> x.hexFill(0));
        x.hexSet(9, 5);
        x.hexSet(18, 15);
        Check.state("promise 36: two cells", x::hexFillings);
        Check.state("promise 37: two cells", () -> x.hexFill(0));
        Check.state("promise 37: the first of two exceptions", () -> x.hexFill(-1));
        x.hexSet(0, 3);
        Check.due("promise 36: three cells", 2, x::hexFillings);
        Check.due("promise 37: the latter", 3, () -> x.hexFill(1));
        Check.due("promise 37: its cell 1", 19, () -> x.hexAt(1));
        Check.due("promise 45: no changes of the square", -1, x::undo);
    }
}
