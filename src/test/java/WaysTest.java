/** Promises 16, 17 and 32: the old ways, products of squares, and the knight's walk. */
public final class WaysTest {
    public static void main(String[] args) {
        checkMade();
        checkSizes();
        checkRules();
        checkMultiply();
        checkWalk();
        Check.finish();
    }

    private static void made(int way, int size, int sum, String want) {
        SquareWorkshop x = new SquareWorkshop();
        Check.due("promise 16: the sum of " + want, sum, () -> x.make(way, size));
        Check.due("promise 16: way " + way + ", size " + size, want, () -> Check.square(x));
        Check.due("promise 16: a change", 0, x::undo);
    }

    private static void checkMade() {
        made(0, 1, 1, "1");
        made(0, 3, 15, "8 1 6;3 5 7;4 9 2");
        made(0, 5, 65, "17 24 1 8 15;23 5 7 14 16;4 6 13 20 22;10 12 19 21 3;11 18 25 2 9");
        made(1, 4, 34, "16 2 3 13;5 11 10 8;9 7 6 12;4 14 15 1");
        made(1, 8, 260, "64 2 3 61 60 6 7 57;9 55 54 12 13 51 50 16;17 47 46 20 21 43 42 24;40 26 27 37 36 30 31 33;"
                + "32 34 35 29 28 38 39 25;41 23 22 44 45 19 18 48;49 15 14 52 53 11 10 56;8 58 59 5 4 62 63 1");
        made(2, 6, 111, "32 29 4 1 24 21;30 31 2 3 22 23;12 9 17 20 28 25;10 11 18 19 26 27;13 16 36 33 5 8;"
                + "14 15 34 35 6 7");
        made(3, 5, 65, "1 12 23 9 20;8 19 5 11 22;15 21 7 18 4;17 3 14 25 6;24 10 16 2 13");
    }

    private static void checkSizes() {
        String[] sizes = {"1 3 5 7 9 11", "4 8 12", "6 10", "5 7 11"};
        SquareWorkshop x = Check.with("1 2;3 4");
        for (int way = -1; way <= 4; way++) {
            for (int size = -2; size <= 14; size++) {
                int w = way;
                int s = size;
                boolean has = way >= 0 && way < 4 && (" " + sizes[way] + " ").contains(" " + size + " ");
                if (has) {
                    Check.due("promise 16: way " + way + ", size " + size, size * (size * size + 1) / 2,
                            () -> x.make(w, s));
                    Check.due("promise 16: NORMAL", true, () -> x.is(SquareWorkshop.NORMAL));
                    Check.due("promise 16: CONSTANT", true, () -> x.is(SquareWorkshop.CONSTANT));
                    Check.due("promise 16: ALL of LATIN", true, () -> w != 3 || x.is(SquareWorkshop.ALL));
                    x.undo();
                } else {
                    Check.argument("promise 16: way " + way + ", size " + size, () -> x.make(w, s));
                }
            }
        }
        Check.unchanged("promise 16: what throws", x, "1 2;3 4", 1);
    }

    /** The cells of LATIN and CROSS, as the document writes them, and the signs of PAIRS of the size 10. */
    private static void checkRules() {
        SquareWorkshop x = new SquareWorkshop();
        for (int n : new int[] {5, 7, 11}) {
            x.make(SquareWorkshop.LATIN, n);
            for (int r = 0; r < n; r++) {
                for (int c = 0; c < n; c++) {
                    int row = r;
                    int column = c;
                    Check.due("promise 16: LATIN", n * ((r + 2 * c) % n) + (2 * r + c) % n + 1, () -> x.at(row, column));
                }
            }
        }
        SquareWorkshop odd = new SquareWorkshop();
        odd.make(SquareWorkshop.ODD, 5);
        x.make(SquareWorkshop.PAIRS, 10);
        String[] signs = {"LLLLL", "LLLLL", "LLULL", "UULUU", "XXXXX"};
        for (int r = 0; r < 5; r++) {
            for (int c = 0; c < 5; c++) {
                int row = 2 * r;
                int column = 2 * c;
                int k = 4 * (odd.at(r, c) - 1);
                String order = signs[r].charAt(c) == 'L' ? "4123" : signs[r].charAt(c) == 'U' ? "1423" : "1432";
                for (int each = 0; each < 4; each++) {
                    int which = each;
                    Check.due("promise 16: PAIRS " + r + " " + c, k + order.charAt(each) - '0',
                            () -> x.at(row + which / 2, column + which % 2));
                }
            }
        }
    }

    private static void checkMultiply() {
        SquareWorkshop x = Check.with("1 2;3 4");
        x.keep(0);
        x.make(SquareWorkshop.ODD, 3);
        x.keep(1);
        x.take(0);
        Check.due("promise 17: the new size", 6, () -> x.multiply(1));
        Check.due("promise 17: the numbers", "8 1 6 17 10 15;3 5 7 12 14 16;4 9 2 13 18 11;26 19 24 35 28 33;"
                + "21 23 25 30 32 34;22 27 20 31 36 29", () -> Check.square(x));
        Check.due("promise 17: a change", 3, x::undo);
        Check.due("promise 17: undone", "1 2;3 4", () -> Check.square(x));
        x.take(1);
        Check.due("promise 17: the other way round", 6, () -> x.multiply(0));
        Check.due("promise 17: its numbers", "29 30 1 2 21 22;31 32 3 4 23 24;9 10 17 18 25 26;11 12 19 20 27 28;"
                + "13 14 33 34 5 6;15 16 35 36 7 8", () -> Check.square(x));
        Check.due("promise 17: the size 12", 12, () -> x.multiply(0));
        Check.state("promise 17: the size 24", () -> x.multiply(0));
        Check.due("promise 17: the size stays", 12, x::size);
        x.begin(1);
        x.keep(3);
        x.begin(12);
        Check.due("promise 17: the sizes 12 and 1", 12, () -> x.multiply(3));
        x.begin(4);
        x.keep(4);
        Check.state("promise 17: the size 16", () -> x.multiply(4));
        Check.element("promise 17: an empty drawer", () -> x.multiply(5));
        Check.index("promise 17: the drawer 6", () -> x.multiply(6));
        Check.index("promise 17: the drawer -1", () -> x.multiply(-1));
        checkMultiplyRange();
    }

    private static void checkMultiplyRange() {
        SquareWorkshop x = Check.with("1000000");
        x.keep(0);
        x.begin(1);
        x.set(0, 0, 1);
        Check.due("promise 17: 1000000 at the edge", 1, () -> x.multiply(0));
        x.set(0, 0, 2);
        Check.state("promise 17: 1000001", () -> x.multiply(0));
        Check.unchanged("promise 17: what throws", x, "2", 5);
        x.begin(1);
        x.keep(1);
        x.set(0, 0, -999999);
        Check.due("promise 17: -1000000 at the edge", 1, () -> x.multiply(1));
        Check.due("promise 17: -1000000", -1000000, () -> x.at(0, 0));
        Check.state("promise 17: -1000001", () -> x.multiply(1));
        x.begin(4);
        x.keep(2);
        x.begin(3);
        x.set(2, 2, 1000000);
        Check.state("promise 17: sixteen times a million", () -> x.multiply(2));
        x.set(2, 2, 62501);
        Check.due("promise 17: the last number that fits", 12, () -> x.multiply(2));
        Check.due("promise 17: 1000000", 1000000, () -> x.at(11, 11));
        Check.due("promise 17: -16", -16, () -> x.at(0, 0));
    }

    private static void checkWalk() {
        Check.due("promise 32: not NORMAL", -1, () -> new SquareWorkshop().walk());
        Check.due("promise 32: one number", 0, () -> Check.with("1").walk());
        Check.due("promise 32: the size 2", 3, () -> Check.with("1 2;3 4").walk());
        Check.due("promise 32: ODD 3", 4, () -> Check.with("8 1 6;3 5 7;4 9 2").walk());
        Check.due("promise 32: a number twice", -1, () -> Check.with("1 1;3 4").walk());
        // A knight's tour of the size 5, and the same one with two numbers exchanged.
        String tour = "1 6 15 10 21;14 9 20 5 16;19 2 7 22 11;8 13 24 17 4;25 18 3 12 23";
        Check.due("promise 32: a tour", 0, () -> Check.with(tour).walk());
        String broken = tour.replace(";25 18", ";18 25");
        Check.due("promise 32: a broken tour", 3, () -> Check.with(broken).walk());
        Check.due("promise 32: two knight's moves, from 1 to 2 and from 5 to 6", 6,
                () -> Check.with("1 4 7;5 8 2;9 3 6").walk());
    }
}
