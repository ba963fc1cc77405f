/** Promises 21 to 26 and 46: turning, mirroring, exchanging, the least form, and the theorem. */
public final class FormsTest {
    private static final String ODD = "8 1 6;3 5 7;4 9 2";

    public static void main(String[] args) {
        checkTurnAndMirror();
        checkExchange();
        checkExchangeRefused();
        checkTurnOver();
        checkLeast();
        checkForms();
        checkErrors();
        Check.finish();
    }

    private static void checkTurnAndMirror() {
        SquareWorkshop x = Check.with("1 2 3;4 5 6;7 8 9");
        Check.due("promise 21: the number in row 0 and column 0", 7, x::turn);
        Check.due("promise 21: turned", "7 4 1;8 5 2;9 6 3", () -> Check.square(x));
        Check.due("promise 21: a change", 1, x::undo);
        Check.due("promise 22: the number in row 0 and column n - 1", 7, x::mirror);
        Check.due("promise 22: mirrored", "1 4 7;2 5 8;3 6 9", () -> Check.square(x));
        Check.due("promise 22: a change", 1, x::undo);
        SquareWorkshop y = Check.with("1 2;3 4");
        y.turn();
        y.turn();
        y.turn();
        Check.due("promise 21: three times", "2 4;1 3", () -> Check.square(y));
        Check.due("promise 21: four times", 1, y::turn);
        SquareWorkshop z = new SquareWorkshop();
        Check.due("promise 21: one cell", 0, z::turn);
        Check.due("promise 22: one cell", 0, z::mirror);
        Check.due("promise 21: a change even so", 1, z::undo);
    }

    private static void exchanged(int one, int other, int answer, String want) {
        SquareWorkshop x = Check.with("1 2 3 4 5;6 7 8 9 10;11 12 13 14 15;16 17 18 19 20;21 22 23 24 25");
        Check.due("promise 23: exchange " + one + " " + other, answer, () -> x.exchange(one, other));
        Check.due("promise 23: the square then", want, () -> Check.square(x));
        Check.due("promise 23: a change", 1, x::undo);
    }

    private static void checkExchange() {
        String both = "7 6 8 10 9;2 1 3 5 4;12 11 13 15 14;22 21 23 25 24;17 16 18 20 19";
        exchanged(0, 1, 7, both);
        exchanged(1, 0, 7, both);
        exchanged(3, 4, 7, both);
        exchanged(4, 3, 7, both);
        exchanged(0, 4, 25, "25 22 23 24 21;10 7 8 9 6;15 12 13 14 11;20 17 18 19 16;5 2 3 4 1");
        exchanged(3, 1, 1, "1 4 3 2 5;16 19 18 17 20;11 14 13 12 15;6 9 8 7 10;21 24 23 22 25");
        exchanged(0, 3, 19, "19 20 18 16 17;24 25 23 21 22;14 15 13 11 12;4 5 3 1 2;9 10 8 6 7");
        String same = "1 2 3 4 5;6 7 8 9 10;11 12 13 14 15;16 17 18 19 20;21 22 23 24 25";
        exchanged(1, 1, 1, same);
        exchanged(2, 2, 1, same);
        SquareWorkshop x = new SquareWorkshop();
        x.make(SquareWorkshop.CROSS, 8);
        long[] sums = {x.sum(0, 0), x.sum(2, 0), x.sum(3, 7)};
        x.exchange(1, 2);
        Check.due("promise 23: even sizes", "64 3 2 61 60 7 6 57", () -> Check.square(x).split(";")[0]);
        Check.due("promise 23: both pairs of rows", "8 59 58 5 4 63 62 1", () -> Check.square(x).split(";")[7]);
        Check.due("promise 23: the lower pair", "49", () -> Check.square(x).split(";")[5].split(" ")[0]);
        Check.due("promise 23: the diagonals keep their sums", true,
                () -> x.sum(0, 0) == sums[0] && x.sum(2, 0) == sums[1] && x.sum(3, 7) == sums[2]);
        SquareWorkshop y = Check.with("1 2;3 4");
        Check.due("promise 23: the size 2", 4, () -> y.exchange(0, 1));
        Check.due("promise 23: once", "4 3;2 1", () -> Check.square(y));
        Check.due("promise 23: the size 1", 0, () -> new SquareWorkshop().exchange(0, 0));
    }

    private static void checkExchangeRefused() {
        SquareWorkshop x = Check.with(ODD);
        int[][] none = {{-1, 0}, {0, -1}, {3, 0}, {0, 3}, {1, 3}, {-1, 1}};
        for (int[] each : none) {
            Check.index("promise 23: no such row", () -> x.exchange(each[0], each[1]));
        }
        int[][] middle = {{0, 1}, {1, 0}, {1, 2}, {2, 1}};
        for (int[] each : middle) {
            Check.argument("promise 23: just one middle row", () -> x.exchange(each[0], each[1]));
        }
        Check.unchanged("promise 23: what throws", x, ODD, 1);
    }

    private static void checkTurnOver() {
        SquareWorkshop x = Check.with("3 -5;10 0");
        Check.due("promise 24: the sum", 5, x::turnOver);
        Check.due("promise 24: the numbers", "2 10;-5 5", () -> Check.square(x));
        Check.due("promise 24: a change", 1, x::undo);
        SquareWorkshop y = Check.with("1000000 -1000000;-1000000 999999");
        Check.due("promise 24: large numbers", 0, y::turnOver);
        Check.due("promise 24: their places", "-1000000 1000000;1000000 -999999", () -> Check.square(y));
        Check.due("promise 24: one number", 14, () -> Check.with("7").turnOver());
        Check.due("promise 24: the least one in the last cell", 5, () -> Check.with("4 3;2 1").turnOver());
    }

    private static void least(String text, int answer, String want) {
        SquareWorkshop x = Check.with(text);
        Check.due("promise 25: the least form of " + text, answer, x::least);
        Check.due("promise 25: the square then", want, () -> Check.square(x));
        Check.due("promise 25: a change", 1, x::undo);
    }

    private static void checkLeast() {
        String form = "2 7 6;9 5 1;4 3 8";
        least(ODD, 6, form);
        least("2 7 6;9 5 1;4 3 8", 0, form);
        least("6 1 8;7 5 3;2 9 4", 1, form);
        least("8 3 4;1 5 9;6 7 2", 2, form);
        least("4 9 2;3 5 7;8 1 6", 3, form);
        least("2 9 4;7 5 3;6 1 8", 4, form);
        least("4 3 8;9 5 1;2 7 6", 7, form);
        least("6 7 2;1 5 9;8 3 4", 5, form);
        least("7", 0, "7");
        least("5 5;5 5", 0, "5 5;5 5");
        // The same form can be had by two quarter turns and by mirroring: the turns are told.
        least("2 1;1 0", 2, "0 1;1 2");
        least("2 0;0 0", 2, "0 0;0 2");
        least("0 2;0 0", 1, "0 0;0 2");
        least("1 0;0 1", 1, "0 1;1 0");
        least("-1 -2;0 0", 5, "-2 -1;0 0");
    }

    private static void checkForms() {
        Check.due("promise 26: 1", 1, () -> Check.with("3 3;3 3").forms());
        Check.due("promise 26: 1 of the size 1", 1, () -> new SquareWorkshop().forms());
        Check.due("promise 26: 2", 2, () -> Check.with("1 0;0 1").forms());
        Check.due("promise 26: 2 by turns alone", 2, () -> Check.with(
                "0 1 0 0;0 0 0 1;1 0 0 0;0 0 1 0").forms());
        Check.due("promise 26: 4", 4, () -> Check.with("1 0;0 0").forms());
        Check.due("promise 26: 4 by half a turn", 4, () -> Check.with("1 2 3;4 5 4;3 2 1").forms());
        Check.due("promise 26: 8", 8, () -> Check.with(ODD).forms());
        SquareWorkshop x = Check.with(ODD);
        x.forms();
        Check.unchanged("promise 26: counting", x, ODD, 1);
    }

    private static void checkErrors() {
        String[] squares = {"0", "1 2;3 4", ODD, "1 8 10 15;12 13 3 6;7 2 16 9;14 11 5 4", "1 2;2 1", "5 5;5 5"};
        for (String each : squares) {
            SquareWorkshop x = Check.with(each);
            Check.due("promise 46: no check fails of " + each, 0, x::errors);
            Check.unchanged("promise 46: it", x, each, 1);
        }
        SquareWorkshop x = new SquareWorkshop();
        x.begin(12);
        Check.due("promise 46: the size 12", 0, x::errors);
    }
}
