import java.util.ArrayList;
import java.util.Collections;
import java.util.List;

/** The bounds of promises 21 to 26 and 46: the sizes 1 and 12, the middle row, forms that are the same. */
public final class FormsBoundsTest {
    private static final Twin.Way AS_IT_IS = x -> { };

    public static void main(String[] args) {
        checkTurnAndMirror();
        checkExchange();
        checkExchangeKeepsTheLines();
        checkTurnOver();
        checkLeast();
        checkSymmetricSquares();
        checkLeastOfAll();
        checkForms();
        checkErrors();
        checkThatNothingChanges();
        Check.finish();
    }

    /** The numbers of a square of a size, row by row, which begin at 0. */
    private static SquareWorkshop counting(int n) {
        SquareWorkshop x = new SquareWorkshop();
        x.begin(n);
        for (int cell = 0; cell < n * n; cell++) {
            x.set(cell / n, cell % n, cell);
        }
        return x;
    }

    private static void checkTurnAndMirror() {
        for (int n = 1; n <= 12; n++) {
            int last = n - 1;
            SquareWorkshop turned = counting(n);
            Check.due("promise 21: the number in row 0 and column 0 of " + n, last * n, turned::turn);
            SquareWorkshop mirrored = counting(n);
            Check.due("promise 22: the number in row 0 and column n - 1 of " + n, last * n, mirrored::mirror);
            for (int cell = 0; cell < n * n; cell++) {
                int number = cell;
                int row = cell / n;
                int column = cell % n;
                Check.due("promise 21: " + n + ", " + cell, number, () -> turned.at(column, last - row));
                Check.due("promise 22: " + n + ", " + cell, number, () -> mirrored.at(column, row));
            }
            Check.due("promise 22: mirrored twice, " + n, last, mirrored::mirror);
            turned.turn();
            turned.turn();
            Check.due("promise 21: turned four times, " + n, 0, turned::turn);
            Check.due("promise 21: the last number, " + n, last * n + last, () -> turned.at(last, last));
        }
    }

    /** Where a row, or a column, comes from when two of them and the opposite two are exchanged. */
    private static int source(int n, int line, int one, int other) {
        if (line == one || line == other) {
            return one + other - line;
        }
        boolean isOpposite = line == n - 1 - one || line == n - 1 - other;
        return isOpposite && one != other ? 2 * (n - 1) - one - other - line : line;
    }

    private static void checkExchange() {
        for (int n = 1; n <= 12; n++) {
            int last = n - 1;
            for (int one = 0; one < n; one++) {
                for (int other = 0; other < n; other++) {
                    if ((2 * one == last) == (2 * other == last)) {
                        exchanged(n, one, other);
                    }
                }
            }
        }
    }

    private static void exchanged(int n, int one, int other) {
        int last = n - 1;
        SquareWorkshop x = counting(n);
        String name = "promise 23: the size " + n + ", " + one + " and " + other;
        int first = source(n, 0, one, other) * n + source(n, 0, one, other);
        Check.due(name, first, () -> x.exchange(one, other));
        for (int line = 0; line < n; line++) {
            int each = line;
            int from = source(n, line, one, other);
            Check.due(name + ", the diagonal", from * n + from, () -> x.at(each, each));
            int right = source(n, last - line, one, other);
            Check.due(name + ", the other diagonal", from * n + right, () -> x.at(each, last - each));
            int column = source(n, (line + 1) % n, one, other);
            Check.due(name + ", beside the diagonal", from * n + column, () -> x.at(each, (each + 1) % n));
        }
        Check.due(name + " is a change", Math.min(n * n + 2, 8) - 1, x::undo);
    }

    private static void checkExchangeKeepsTheLines() {
        for (int n : new int[] {4, 5, 6, 7, 8, 10, 11, 12}) {
            SquareWorkshop x = new SquareWorkshop();
            x.make(n % 2 == 1 ? SquareWorkshop.ODD : n % 4 == 0 ? SquareWorkshop.CROSS : SquareWorkshop.PAIRS, n);
            x.exchange(0, 1);
            Check.due("promise 23: CONSTANT stays, " + n, true, () -> x.is(SquareWorkshop.CONSTANT));
            x.exchange(n - 1, 0);
            Check.due("promise 23: the first row and the last one, " + n, true, () -> x.is(SquareWorkshop.CONSTANT));
        }
    }

    private static void overturned(String square, int sum, String want) {
        SquareWorkshop x = Check.with(square);
        Check.due("promise 24: the sum of " + square, sum, x::turnOver);
        Check.due("promise 24: " + square, want, () -> Check.square(x));
        Check.due("promise 24: twice, " + square, sum, x::turnOver);
        Check.due("promise 24: as it was, " + square, square, () -> Check.square(x));
    }

    private static void checkTurnOver() {
        overturned("0", 0, "0");
        overturned("1000000", 2000000, "1000000");
        overturned("-1000000", -2000000, "-1000000");
        overturned("1000000 1000000;1000000 1000000", 2000000, "1000000 1000000;1000000 1000000");
        overturned("-1000000 1000000;0 5", 0, "1000000 -1000000;0 -5");
        overturned("-1000000 -999999;-1000000 -1000000", -1999999, "-999999 -1000000;-999999 -999999");
        overturned("1000000 999999;999998 1000000", 1999998, "999998 999999;1000000 999998");
        overturned("1 2;3 4", 5, "4 3;2 1");
        overturned("4 2;3 1", 5, "1 3;2 4");
        overturned("2 4;1 3", 5, "3 1;4 2");
        overturned("2 1;4 3", 5, "3 4;1 2");
        SquareWorkshop x = counting(12);
        Check.due("promise 24: the size 12", 143, x::turnOver);
        Check.due("promise 24: its first number", 143, () -> x.at(0, 0));
        Check.due("promise 24: its last number", 0, () -> x.at(11, 11));
    }

    private static void least(String square, int answer, String want) {
        SquareWorkshop x = Check.with(square);
        Check.due("promise 25: what it takes from " + square, answer, x::least);
        Check.due("promise 25: the least form of " + square, want, () -> Check.square(x));
        Check.due("promise 25: nothing more is to be done then", 0, x::least);
        Check.due("promise 25: it stays", want, () -> Check.square(x));
    }

    private static void checkLeast() {
        least("0", 0, "0");
        least("-1000000", 0, "-1000000");
        least("7 7;7 7", 0, "7 7;7 7");
        least("1 0 1;0 0 0;1 0 1", 0, "1 0 1;0 0 0;1 0 1");
        least("0 0 0;0 0 0;0 0 1", 0, "0 0 0;0 0 0;0 0 1");
        least("0 0 0;0 0 0;1 0 0", 3, "0 0 0;0 0 0;0 0 1");
        least("0 0 1;0 0 0;0 0 0", 1, "0 0 0;0 0 0;0 0 1");
        least("1 0 0;0 0 0;0 0 0", 2, "0 0 0;0 0 0;0 0 1");
        least("0 0 0;0 0 1;0 0 0", 1, "0 0 0;0 0 0;0 1 0");
        least("0 1 0;0 0 0;0 0 0", 2, "0 0 0;0 0 0;0 1 0");
        least("-1000000 1000000;999999 -999999", 4, "-1000000 999999;1000000 -999999");
        least("1000000 -1000000;-999999 999999", 3, "-1000000 999999;1000000 -999999");
        least("1000000 -999999;-1000000 999999", 7, "-1000000 999999;1000000 -999999");
    }

    /** Squares some of whose forms are the same: the fewest turns are told, and mirroring only where it must be. */
    private static void checkSymmetricSquares() {
        least("1 2;2 1", 0, "1 2;2 1");
        least("2 1;1 2", 1, "1 2;2 1");
        least("1 1;2 2", 0, "1 1;2 2");
        least("2 2;1 1", 2, "1 1;2 2");
        least("1 2;1 2", 1, "1 1;2 2");
        least("2 1;2 1", 3, "1 1;2 2");
        least("2 1;1 1", 2, "1 1;1 2");
        least("1 2;1 1", 1, "1 1;1 2");
        least("1 1;2 1", 3, "1 1;1 2");
        // Half a turn leaves these as they are: 4 and 6, 5 and 7 lead to the same square.
        least("1 2 3;4 5 4;3 2 1", 0, "1 2 3;4 5 4;3 2 1");
        least("3 4 1;2 5 2;1 4 3", 1, "1 2 3;4 5 4;3 2 1");
        least("1 4 3;2 5 2;3 4 1", 4, "1 2 3;4 5 4;3 2 1");
        least("3 2 1;4 5 4;1 2 3", 5, "1 2 3;4 5 4;3 2 1");
        // A quarter turn leaves these: all mirrored forms are the same.
        least("0 1 2 0;2 3 3 1;1 3 3 2;0 2 1 0", 0, "0 1 2 0;2 3 3 1;1 3 3 2;0 2 1 0");
        least("0 2 1 0;1 3 3 2;2 3 3 1;0 1 2 0", 4, "0 1 2 0;2 3 3 1;1 3 3 2;0 2 1 0");
    }

    private static List<List<Integer>> formsOf(List<Integer> square, int n) {
        List<List<Integer>> all = new ArrayList<>();
        List<Integer> next = square;
        for (int form = 0; form < 8; form++) {
            List<Integer> from = form == 4 ? square : next;
            List<Integer> to = new ArrayList<>(from);
            for (int cell = 0; cell < n * n && form > 0; cell++) {
                int row = cell / n;
                int column = cell % n;
                to.set(column * n + (form == 4 ? row : n - 1 - row), from.get(cell));
            }
            all.add(to);
            next = to;
        }
        return all;
    }

    private static int compare(List<Integer> one, List<Integer> other) {
        for (int cell = 0; cell < one.size(); cell++) {
            if (!one.get(cell).equals(other.get(cell))) {
                return one.get(cell).compareTo(other.get(cell));
            }
        }
        return 0;
    }

    /** All squares of the size 2 with three numbers, and all of the size 3 with two, against a search. */
    private static void checkLeastOfAll() {
        for (int code = 0; code < 81; code++) {
            againstSearch(code, 2, 3);
        }
        for (int code = 0; code < 512; code++) {
            againstSearch(code, 3, 2);
        }
    }

    private static void againstSearch(int code, int n, int numbers) {
        List<Integer> square = new ArrayList<>();
        SquareWorkshop x = new SquareWorkshop();
        x.begin(n);
        int rest = code;
        for (int cell = 0; cell < n * n; cell++) {
            square.add(rest % numbers - 1);
            x.set(cell / n, cell % n, rest % numbers - 1);
            rest /= numbers;
        }
        List<List<Integer>> forms = formsOf(square, n);
        List<Integer> least = Collections.min(forms, FormsBoundsTest::compare);
        int different = (int) forms.stream().distinct().count();
        String name = Check.square(x);
        Check.due("promise 26: the forms of " + name, different, x::forms);
        Check.due("promise 25: what it takes from " + name, forms.indexOf(least), x::least);
        for (int cell = 0; cell < n * n; cell++) {
            int row = cell / n;
            int column = cell % n;
            int want = least.get(cell);
            Check.due("promise 25: the least form of " + name, want, () -> x.at(row, column));
        }
    }

    private static void checkForms() {
        Check.due("promise 26: the size 1", 1, () -> counting(1).forms());
        for (int size = 2; size <= 12; size++) {
            int n = size;
            Check.due("promise 26: all numbers are different, " + n, 8, () -> counting(n).forms());
            SquareWorkshop x = new SquareWorkshop();
            x.begin(n);
            Check.due("promise 26: all numbers are the same, " + n, 1, x::forms);
            x.set(0, 0, 1);
            Check.due("promise 26: one corner, " + n, 4, x::forms);
            x.set(n - 1, n - 1, 1);
            Check.due("promise 26: two opposite corners, " + n, 2, x::forms);
            x.set(n - 1, 0, 1);
            Check.due("promise 26: three corners, " + n, 4, x::forms);
            x.set(0, n - 1, 1);
            Check.due("promise 26: four corners, " + n, 1, x::forms);
            x.set(n - 1, n - 1, 2);
            x.set(n - 1, 0, 3);
            Check.due("promise 26: the last corners are different, " + n, 8, x::forms);
        }
    }

    private static void checkErrors() {
        for (int size = 1; size <= 12; size++) {
            int n = size;
            Check.due("promise 46: numbers that are all different, " + n, 0, () -> counting(n).errors());
            SquareWorkshop x = new SquareWorkshop();
            x.begin(n);
            Check.due("promise 46: zeros, " + n, 0, x::errors);
            x.set(0, 0, 1000000);
            x.set(n - 1, n - 1, -1000000);
            Check.due("promise 46: the greatest and the least number, " + n, 0, x::errors);
        }
        for (int way = SquareWorkshop.ODD; way <= SquareWorkshop.LATIN; way++) {
            for (int size = 1; size <= 12; size++) {
                SquareWorkshop x = new SquareWorkshop();
                int w = way;
                int n = size;
                if (Check.answer(() -> x.make(w, n)) instanceof Integer) {
                    Check.due("promise 46: the way " + way + ", " + size, 0, x::errors);
                }
            }
        }
    }

    private static void checkThatNothingChanges() {
        Twin.same("promise 26: forms", 8, AS_IT_IS, x -> x.forms());
        Twin.same("promise 46: errors", 0, AS_IT_IS, x -> x.errors());
        Twin.same("promise 46: errors of the size 12", 0, x -> x.make(SquareWorkshop.CROSS, 12), x -> x.errors());
        Twin.same("promise 46: errors of a full text and a game that is over", 0, x -> {
            x.clearText();
            Check.typed(x, " ".repeat(399) + "3");
            x.newGame();
            for (int number : new int[] {1, 2, 5, 3, 9}) {
                x.pick(number);
            }
        }, x -> x.errors());
    }
}
