import java.util.ArrayList;
import java.util.List;

/** Promises 30 and 31: the fillings of squares of the sizes 3 and 4. */
public final class FillingsTest {
    public static void main(String[] args) {
        checkThree();
        checkFour();
        checkRefused();
        checkAgainstAll();
        Check.finish();
    }

    private static void checkThree() {
        SquareWorkshop x = new SquareWorkshop();
        x.begin(3);
        Check.due("promise 30: all of the size 3", 8, x::fillings);
        String[] all = {"2 7 6;9 5 1;4 3 8", "2 9 4;7 5 3;6 1 8", "4 3 8;9 5 1;2 7 6", "4 9 2;3 5 7;8 1 6",
            "6 1 8;7 5 3;2 9 4", "6 7 2;1 5 9;8 3 4", "8 1 6;3 5 7;4 9 2", "8 3 4;1 5 9;6 7 2"};
        for (int index = 0; index < 8; index++) {
            int each = index;
            Check.due("promise 31: the number in row 0 and column 0", all[index].charAt(0) - '0', () -> x.fill(each));
            Check.due("promise 31: the filling " + index, all[index], () -> Check.square(x));
            Check.due("promise 30: a filled square", 1, x::fillings);
            Check.due("promise 31: a filled square", all[index].charAt(0) - '0', () -> x.fill(0));
            Check.due("promise 31: a change", 2, x::undo);
            Check.due("promise 31: undone", 1, x::undo);
        }
        for (int index : new int[] {-1, 8, Integer.MIN_VALUE, Integer.MAX_VALUE}) {
            Check.index("promise 31: no such filling", () -> x.fill(index));
        }
        x.set(1, 1, 4);
        Check.due("promise 30: none", 0, x::fillings);
        Check.index("promise 31: none", () -> x.fill(0));
        Check.unchanged("promise 31: what throws", x, "0 0 0;0 4 0;0 0 0", 2);
        Check.due("promise 30: a full square that is none", 0, () -> Check.with("1 2 3;4 5 6;7 8 9").fillings());
        Check.due("promise 30: one that has another diagonal", 0, () -> Check.with("1 5 9;6 7 2;8 3 4").fillings());
        Check.due("promise 30: one cell empty", 1, () -> Check.with("8 1 6;3 5 7;4 9 0").fillings());
        Check.due("promise 30: some", 2, () -> Check.with("0 1 0;0 0 0;0 0 0").fillings());
    }

    private static void checkFour() {
        SquareWorkshop x = Check.with("16 3 2 13;0 0 0 0;0 0 0 0;0 0 0 0");
        int count = x.fillings();
        String before = "";
        boolean found = false;
        for (int index = 0; index < count; index++) {
            x.fill(index);
            String filling = ordered(Check.square(x));
            String last = before;
            Check.due("promise 31: in their order", true, () -> last.compareTo(filling) < 0);
            Check.due("promise 31: CONSTANT", true, () -> x.is(SquareWorkshop.CONSTANT) && x.is(SquareWorkshop.NORMAL));
            found |= Check.square(x).equals("16 3 2 13;5 10 11 8;9 6 7 12;4 15 14 1");
            before = filling;
            x.undo();
        }
        boolean hasIt = found;
        Check.due("promise 31: the square of the engraving", true, () -> hasIt);
        Check.index("promise 31: behind the last one", () -> x.fill(count));
    }

    /** Numbers of one length, so that texts have the order of the numbers. */
    private static String ordered(String square) {
        StringBuilder all = new StringBuilder();
        for (String each : square.split("[ ;]")) {
            all.append(each.length() == 1 ? "0" : "").append(each).append(" ");
        }
        return all.toString();
    }

    private static void refused(String text) {
        SquareWorkshop x = Check.with(text);
        Check.state("promise 30: " + text, x::fillings);
        Check.state("promise 31: " + text, () -> x.fill(0));
        Check.state("promise 31: the first of two exceptions, " + text, () -> x.fill(-1));
        Check.unchanged("promise 31: what throws", x, text, 1);
    }

    private static void checkRefused() {
        refused("0");
        refused("0 0;0 0");
        refused("0 0 0 0 0;0 0 0 0 0;0 0 0 0 0;0 0 0 0 0;0 0 0 0 0");
        refused("10 0 0;0 0 0;0 0 0");
        refused("0 0 0;0 0 0;0 0 -1");
        refused("1 0 0;0 0 0;0 0 1");
        refused("0 0 0;0 1000000 0;0 0 0");
        refused("0 0 0;0 -1000000 0;0 0 0");
        refused("0 0 0;0 33 0;0 0 0");
        refused("0 0 0 0;0 0 0 0;0 0 0 0;0 0 0 0");
        refused("1 2 3 0;0 0 0 0;0 0 0 0;0 0 0 0");
        refused("1 2 3 17;0 0 0 0;0 0 0 0;0 0 0 0");
        refused("1 2 3 3;0 0 0 0;0 0 0 0;0 0 0 0");
        refused("1 2 3 -4;5 0 0 0;0 0 0 0;0 0 0 0");
        Check.due("promise 30: four cells", 0, () -> Check.with("1 2 3 4;0 0 0 0;0 0 0 0;0 0 0 0").fillings());
        // What is left for the last cell of the row is 0, which is no number of a filling.
        Check.due("promise 30: nothing left", 0, () -> Check.with("16 15 3 0;0 0 0 1;0 0 0 0;0 0 0 0").fillings());
        Check.due("promise 30: nothing left", 0, () -> Check.with("6 9 0;0 0 0;0 0 0").fillings());
        Check.due("promise 30: the number 16", true,
                () -> Check.with("16 2 3 13;0 0 0 0;0 0 0 0;0 0 0 0").fillings() > 0);
    }

    /** All 7040 squares of the size 4, found without the workshop, tell what each choice of cells leaves. */
    private static void checkAgainstAll() {
        List<int[]> all = new ArrayList<>();
        collect(new int[16], 0, 0, all);
        Check.due("all squares of the size 4", 7040, all::size);
        long seed = 1;
        for (int round = 0; round < 400; round++) {
            int[] model = all.get((int) ((seed >>> 33) % all.size()));
            int[] given = new int[16];
            int count = 4 + round % 3;
            for (int chosen = 0; chosen < count;) {
                seed = seed * 6364136223846793005L + 1442695040888963407L;
                int cell = (int) (seed >>> 60);
                if (given[cell] == 0) {
                    given[cell] = model[cell];
                    chosen++;
                }
            }
            // Each third round gets a number that the model does not have there.
            if (round % 3 == 0) {
                swapTwo(given);
            }
            compare(given, all);
        }
    }

    private static void swapTwo(int[] given) {
        int last = -1;
        for (int cell = 0; cell < 16; cell++) {
            if (given[cell] != 0 && last >= 0) {
                int kept = given[cell];
                given[cell] = given[last];
                given[last] = kept;
                return;
            }
            last = given[cell] != 0 ? cell : last;
        }
    }

    private static void compare(int[] given, List<int[]> all) {
        SquareWorkshop x = new SquareWorkshop();
        x.begin(4);
        for (int cell = 0; cell < 16; cell++) {
            x.set(cell / 4, cell % 4, given[cell]);
        }
        String name = Check.square(x);
        int count = 0;
        for (int[] each : all) {
            boolean fits = true;
            for (int cell = 0; cell < 16; cell++) {
                fits &= given[cell] == 0 || given[cell] == each[cell];
            }
            if (fits) {
                int index = count;
                x.fill(index);
                Check.due("promise 31: the filling " + index + " of " + name, true, () -> {
                    boolean same = true;
                    for (int cell = 0; cell < 16; cell++) {
                        same &= x.at(cell / 4, cell % 4) == each[cell];
                    }
                    return same;
                });
                x.undo();
                count++;
            }
        }
        Check.due("promise 30: the fillings of " + name, count, x::fillings);
        int end = count;
        Check.index("promise 31: behind the last one of " + name, () -> x.fill(end));
    }

    static void collect(int[] cells, int at, int used, List<int[]> all) {
        if (at == 16) {
            all.add(cells.clone());
            return;
        }
        for (int number = 1; number <= 16; number++) {
            if ((used >> number & 1) == 0) {
                cells[at] = number;
                if (mayBe(cells, at)) {
                    collect(cells, at + 1, used | 1 << number, all);
                }
                cells[at] = 0;
            }
        }
    }

    private static boolean mayBe(int[] cells, int at) {
        int row = at / 4;
        int column = at % 4;
        boolean right = column < 3 || cells[at] + cells[at - 1] + cells[at - 2] + cells[at - 3] == 34;
        right &= row < 3 || cells[at] + cells[at - 4] + cells[at - 8] + cells[at - 12] == 34;
        right &= at != 12 || cells[3] + cells[6] + cells[9] + cells[12] == 34;
        return right && (at != 15 || cells[0] + cells[5] + cells[10] + cells[15] == 34);
    }
}
