import java.util.Arrays;

/** The bounds of section 6 and of promises 40 to 44: the numbers 1 to 9, each once, and a game that is over. */
public final class GameBoundsTest {
    private static final int NONE = SquareWorkshop.NONE;
    // Nobody has three numbers that add up to 15 when all are taken; the last number of the other game wins it.
    private static final int[] DRAWN = {8, 1, 6, 5, 3, 7, 9, 4, 2};
    private static final int[] WON_AT_LAST = {1, 5, 2, 6, 3, 7, 4, 8, 9};
    private static final int[] WON_BY_FIRST = {1, 2, 5, 3, 9};
    private static final int[] WON_BY_SECOND = {1, 4, 2, 5, 3, 6};
    private static final Twin.Way AS_IT_IS = x -> { };

    public static void main(String[] args) {
        checkBeginning();
        checkNumbers();
        checkTurns();
        checkTriples();
        checkTwoNumbers();
        checkEnd();
        checkNewGames();
        checkOutcomes();
        checkBestPicks();
        checkThatNothingChanges();
        Check.finish();
    }

    private static SquareWorkshop game(int... numbers) {
        SquareWorkshop x = new SquareWorkshop();
        for (int number : numbers) {
            x.pick(number);
        }
        return x;
    }

    private static void checkBeginning() {
        SquareWorkshop x = new SquareWorkshop();
        Check.due("promise 42: nobody has won at first", NONE, x::winner);
        Check.due("promise 43: nobody wins with the best play of both", 0, x::outcome);
        Check.due("promise 44: 1 keeps this", 1, x::bestPick);
        Check.due("promise 41: no number is taken at first", 0, x::newGame);
        Check.due("promise 41: nor then", 0, x::newGame);
    }

    private static void checkNumbers() {
        for (int number = 1; number <= 9; number++) {
            int each = number;
            SquareWorkshop x = new SquareWorkshop();
            Check.due("promise 40: the number " + number, 1, () -> x.pick(each));
            Check.argument("promise 40: it is taken, for player 1, too, " + number, () -> x.pick(each));
            int other = number == 9 ? 1 : number + 1;
            Check.due("promise 40: the second number", 2, () -> x.pick(other));
            Check.argument("promise 40: it is taken, for player 0, too, " + number, () -> x.pick(each));
            Check.argument("promise 40: and so is the second one", () -> x.pick(other));
            Check.due("promise 41: these calls took nothing", 2, x::newGame);
        }
        int[] none = {0, 10, -1, 11, 31, 32, 33, 41, -31, Integer.MIN_VALUE, Integer.MAX_VALUE};
        for (int number : none) {
            SquareWorkshop x = game(9, 1);
            Check.argument("promise 40: no number " + number, () -> x.pick(number));
            Check.due("promise 41: it took nothing", 2, x::newGame);
        }
    }

    /** Player 0 begins, and what was refused is no turn. */
    private static void checkTurns() {
        SquareWorkshop x = new SquareWorkshop();
        Check.due("promise 40: player 0", 1, () -> x.pick(2));
        Check.argument("promise 40: refused", () -> x.pick(2));
        Check.due("promise 40: player 1", 2, () -> x.pick(1));
        Check.argument("promise 40: refused", () -> x.pick(0));
        Check.due("promise 40: player 0", 3, () -> x.pick(4));
        Check.argument("promise 40: refused", () -> x.pick(10));
        Check.due("promise 40: player 1", 4, () -> x.pick(3));
        Check.due("promise 42: nobody yet", NONE, x::winner);
        Check.due("promise 40: player 0 has 2, 4 and 9", 5, () -> x.pick(9));
        Check.due("promise 42: player 0 has won", 0, x::winner);
    }

    /** The two least numbers beside three. */
    private static int[] others(int[] triple) {
        int[] two = new int[2];
        int found = 0;
        for (int number = 1; number <= 9 && found < 2; number++) {
            if (number != triple[0] && number != triple[1] && number != triple[2]) {
                two[found] = number;
                found++;
            }
        }
        return two;
    }

    private static void checkTriples() {
        for (int a = 1; a <= 9; a++) {
            for (int b = 1; b <= 9; b++) {
                int c = 15 - a - b;
                if (a != b && b != c && a != c && c >= 1 && c <= 9) {
                    int[] two = others(new int[] {a, b, c});
                    String name = a + ", " + b + " and " + c;
                    SquareWorkshop x = game(a, two[0], b, two[1]);
                    Check.due("promise 42: two of " + name, NONE, x::winner);
                    Check.due("promise 40: the third one of " + name, 5, () -> x.pick(c));
                    Check.due("promise 42: player 0 has " + name, 0, x::winner);
                    Check.due("promise 43: player 0 has " + name, 1, x::outcome);
                    Check.state("promise 44: it is over with " + name, x::bestPick);
                }
            }
        }
        for (int a = 1; a <= 9; a++) {
            for (int b = a + 1; b <= 9; b++) {
                for (int c = b + 1; c <= 9; c++) {
                    int[] two = others(new int[] {a, b, c});
                    SquareWorkshop x = game(a, two[0], b, two[1], c);
                    int want = a + b + c == 15 ? 0 : NONE;
                    Check.due("promise 42: " + a + ", " + b + " and " + c, want, x::winner);
                }
            }
        }
    }

    /** Two numbers that add up to 15, or one number and its double, do not win. */
    private static void checkTwoNumbers() {
        Check.due("promise 42: 6 and 9", NONE, game(6, 1, 9)::winner);
        Check.due("promise 42: 7 and 8", NONE, game(7, 1, 8)::winner);
        Check.due("promise 42: 5 and 5 and 5 are one number", NONE, game(5, 1)::winner);
        Check.due("promise 42: four numbers of the sum 15", NONE, game(1, 5, 2, 7, 4, 9, 8)::winner);
        Check.due("promise 42: three of four", 0, game(1, 4, 2, 7, 9, 3, 5)::winner);
        Check.due("promise 42: the numbers of both do not count together", NONE, game(4, 9, 3, 8)::winner);
    }

    private static void over(String what, int winner, int outcome, int[] numbers) {
        SquareWorkshop before = game(Arrays.copyOf(numbers, numbers.length - 1));
        Check.due("promise 42: one number ahead of the end, " + what, NONE, before::winner);
        Check.due("promise 44: it is not over yet, " + what, true, () -> before.bestPick() >= 1);
        SquareWorkshop x = game(numbers);
        Check.due("promise 42: " + what, winner, x::winner);
        Check.due("promise 43: " + what, outcome, x::outcome);
        Check.state("promise 44: " + what, x::bestPick);
        for (int number = 0; number <= 10; number++) {
            int each = number;
            boolean isFree = number >= 1 && number <= 9;
            for (int taken : numbers) {
                isFree &= taken != number;
            }
            if (isFree) {
                Check.state("promise 40: " + what + ", the free number " + number, () -> x.pick(each));
            } else {
                Check.argument("promise 40: " + what + ", the number " + number, () -> x.pick(each));
            }
        }
        Check.due("promise 42: it stays, " + what, winner, x::winner);
        Check.due("promise 41: " + what, numbers.length, x::newGame);
        Check.due("promise 42: a new game", NONE, x::winner);
        Check.due("promise 44: a new game", 1, x::bestPick);
    }

    private static void checkEnd() {
        over("all are taken and nobody has won", NONE, 0, DRAWN);
        over("the last number wins", 0, 1, WON_AT_LAST);
        over("player 0 has won", 0, 1, WON_BY_FIRST);
        over("player 1 has won", 1, -1, WON_BY_SECOND);
    }

    private static void checkNewGames() {
        SquareWorkshop x = new SquareWorkshop();
        for (int taken = 0; taken <= 9; taken++) {
            for (int each = 0; each < taken; each++) {
                x.pick(DRAWN[each]);
            }
            int want = taken;
            Check.due("promise 41: so many were taken", want, x::newGame);
            Check.due("promise 41: none is taken then", 0, x::newGame);
        }
        SquareWorkshop y = game(1);
        y.newGame();
        Check.due("promise 41: player 0 begins again", 1, () -> y.pick(2));
        y.pick(1);
        y.pick(4);
        y.pick(3);
        y.pick(9);
        Check.due("promise 42: player 0 has won", 0, y::winner);
    }

    private static void outcome(String what, int outcome, int best, int... numbers) {
        SquareWorkshop x = game(numbers);
        Check.due("promise 43: " + what, outcome, x::outcome);
        Check.due("promise 44: " + what, best, x::bestPick);
        Check.due("promise 41: both leave the game, " + what, numbers.length, x::newGame);
    }

    private static void checkOutcomes() {
        for (int number = 1; number <= 9; number++) {
            SquareWorkshop x = game(number);
            Check.due("promise 43: no first number loses, " + number, 0, x::outcome);
        }
        outcome("player 0 can win at once", 1, 9, 1, 2, 5, 4);
        outcome("player 0 can win at once, and later with a smaller number", 1, 4, 1, 2, 5, 3);
        outcome("player 1 can win at once", -1, 6, 1, 4, 2, 5, 3);
        outcome("player 1 must take the last number of a triple", 0, 4, 5, 2, 6);
        outcome("player 0 must take the last number of a triple", 0, 6, 1, 4, 3, 5);
        outcome("player 1 has lost, whatever number", 1, 3, 2, 1, 5);
        outcome("one number is left", 0, 2, 8, 1, 6, 5, 3, 7, 9, 4);
        outcome("one number is left, and wins", 1, 9, 1, 5, 2, 6, 3, 7, 4, 8);
    }

    /** What the rules alone say of each number that could be taken. */
    private static void checkBestPicks() {
        int[][] games = {
            {}, {5}, {1}, {2}, {9}, {5, 2}, {5, 1}, {2, 5}, {1, 5}, {2, 1}, {5, 1, 9}, {2, 5, 8}, {1, 2, 3},
            {2, 1, 4, 9}, {9, 8, 7, 6}, {5, 2, 8, 1}, {1, 2, 3, 4, 5}, {8, 1, 6, 5, 3, 7, 9}, {6, 5, 1, 8, 2}
        };
        for (int[] numbers : games) {
            int[] owners = new int[10];
            for (int each = 0; each < numbers.length; each++) {
                owners[numbers[each]] = 1 + each % 2;
            }
            SquareWorkshop x = game(numbers);
            String name = Arrays.toString(numbers);
            int outcome = value(owners, numbers.length);
            Check.due("promise 43: " + name, outcome, x::outcome);
            int best = 0;
            for (int number = 9; number >= 1; number--) {
                if (owners[number] == 0) {
                    owners[number] = 1 + numbers.length % 2;
                    best = value(owners, numbers.length + 1) == outcome ? number : best;
                    owners[number] = 0;
                }
            }
            int want = best;
            Check.due("promise 44: " + name, want, x::bestPick);
        }
    }

    private static boolean has(int[] owners, int player) {
        for (int a = 1; a <= 9; a++) {
            for (int b = a + 1; b <= 9; b++) {
                int c = 15 - a - b;
                if (c > b && c <= 9 && owners[a] == player && owners[b] == player && owners[c] == player) {
                    return true;
                }
            }
        }
        return false;
    }

    private static int value(int[] owners, int taken) {
        if (has(owners, 1) || has(owners, 2) || taken == 9) {
            return has(owners, 1) ? 1 : has(owners, 2) ? -1 : 0;
        }
        int best = taken % 2 == 0 ? -1 : 1;
        for (int number = 1; number <= 9; number++) {
            if (owners[number] == 0) {
                owners[number] = 1 + taken % 2;
                int next = value(owners, taken + 1);
                best = taken % 2 == 0 ? Math.max(best, next) : Math.min(best, next);
                owners[number] = 0;
            }
        }
        return best;
    }

    private static void checkThatNothingChanges() {
        Twin.same("promise 42: winner", NONE, AS_IT_IS, x -> x.winner());
        Twin.same("promise 43: outcome", 0, AS_IT_IS, x -> x.outcome());
        Twin.same("promise 44: bestPick", 1, AS_IT_IS, x -> x.bestPick());
        Twin.same("promise 41: newGame of no number", 0, x -> x.newGame(), x -> x.newGame());
        Twin.same("promise 43: outcome at the beginning", 0, x -> x.newGame(), x -> x.outcome());
        Twin.same("promise 44: bestPick at the beginning", 1, x -> x.newGame(), x -> x.bestPick());
    }
}
