import java.util.HashMap;
import java.util.Map;

/** Promises 40 to 44: the game in which three numbers must make fifteen. */
public final class FifteenTest {
    private static final Map<Integer, Integer> OUTCOMES = new HashMap<>();

    public static void main(String[] args) {
        checkGame();
        checkRefused();
        SquareWorkshop x = new SquareWorkshop();
        checkAll(x, new int[9], new int[9], 0);
        Check.finish();
    }

    private static void checkGame() {
        SquareWorkshop x = new SquareWorkshop();
        int[] moves = {2, 7, 6, 5, 9, 1, 3, 4};
        for (int each = 0; each < moves.length; each++) {
            int move = moves[each];
            Check.due("promise 42: nobody yet", -1, x::winner);
            Check.due("promise 40: how many are taken", each + 1, () -> x.pick(move));
        }
        Check.due("promise 42: nobody", -1, x::winner);
        Check.due("promise 40: the last number", 9, () -> x.pick(8));
        Check.due("promise 42: the draw", -1, x::winner);
        Check.due("promise 43: the draw", 0, x::outcome);
        Check.argument("promise 40: taken, and over", () -> x.pick(8));
        Check.state("promise 44: over", x::bestPick);
        Check.due("promise 41: how many were taken", 9, x::newGame);
        Check.due("promise 41: none", 0, x::newGame);
        Check.due("promise 43: at first", 0, x::outcome);
        Check.due("promise 44: at first", 1, x::bestPick);
        for (int move : new int[] {9, 1, 6, 2}) {
            x.pick(move);
        }
        Check.due("promise 42: 9 and 6 are two numbers", -1, x::winner);
        Check.due("promise 41: the new game's numbers", 5, () -> x.pick(3));
        Check.due("promise 42: 6 + 9 is no sum of three", -1, x::winner);
    }

    private static void checkRefused() {
        SquareWorkshop x = new SquareWorkshop();
        for (int number : new int[] {0, -1, 10, 32, 33, 37, Integer.MIN_VALUE, Integer.MAX_VALUE}) {
            Check.argument("promise 40: no such number", () -> x.pick(number));
        }
        x.pick(5);
        Check.argument("promise 40: taken", () -> x.pick(5));
        Check.argument("promise 40: 37 is not 5", () -> x.pick(37));
        x.pick(1);
        Check.argument("promise 40: taken by the other one", () -> x.pick(1));
        x.pick(6);
        x.pick(2);
        Check.due("promise 42: two numbers are not enough", -1, x::winner);
        x.pick(4);
        Check.due("promise 42: player 0", 0, x::winner);
        Check.due("promise 43: player 0", 1, x::outcome);
        Check.state("promise 40: over", () -> x.pick(9));
        Check.argument("promise 40: the first of two exceptions", () -> x.pick(4));
        Check.argument("promise 40: out of range, and over", () -> x.pick(10));
        Check.state("promise 44: over", x::bestPick);
        Check.due("promise 41: what throws takes nothing", 5, x::newGame);
        for (int number : new int[] {9, 1, 2, 8}) {
            x.pick(number);
        }
        Check.due("promise 42: the other one's numbers do not help", -1, x::winner);
        x.pick(3);
        x.pick(6);
        Check.due("promise 42: player 1", 1, x::winner);
        Check.due("promise 43: player 1", -1, x::outcome);
    }

    /** Goes through all games; each state is looked at once, by the first path that leads to it. */
    private static void checkAll(SquareWorkshop x, int[] owners, int[] path, int taken) {
        int state = code(owners);
        if (OUTCOMES.containsKey(-1 - state)) {
            return;
        }
        OUTCOMES.put(-1 - state, 0);
        x.newGame();
        for (int each = 0; each < taken; each++) {
            x.pick(path[each]);
        }
        int outcome = outcome(owners, taken);
        boolean over = taken == 9 || wins(owners, 1) || wins(owners, 2);
        String name = "the game " + state;
        Check.due("promise 42: " + name, wins(owners, 1) ? 0 : wins(owners, 2) ? 1 : -1, x::winner);
        Check.due("promise 43: " + name, outcome, x::outcome);
        if (over) {
            Check.state("promise 44: " + name, x::bestPick);
            return;
        }
        int best = 0;
        for (int number = 9; number >= 1; number--) {
            if (owners[number - 1] == 0) {
                owners[number - 1] = 1 + taken % 2;
                best = outcome(owners, taken + 1) == outcome ? number : best;
                owners[number - 1] = 0;
            }
        }
        int want = best;
        Check.due("promise 44: " + name, want, x::bestPick);
        for (int number = 1; number <= 9; number++) {
            if (owners[number - 1] == 0) {
                owners[number - 1] = 1 + taken % 2;
                path[taken] = number;
                checkAll(x, owners, path, taken + 1);
                owners[number - 1] = 0;
            }
        }
    }

    private static int code(int[] owners) {
        int code = 0;
        for (int each : owners) {
            code = 3 * code + each;
        }
        return code;
    }

    static boolean wins(int[] owners, int player) {
        for (int a = 1; a <= 9; a++) {
            for (int b = a + 1; b <= 9; b++) {
                int c = 15 - a - b;
                if (c > b && c <= 9 && owners[a - 1] == player && owners[b - 1] == player && owners[c - 1] == player) {
                    return true;
                }
            }
        }
        return false;
    }

    static int outcome(int[] owners, int taken) {
        if (wins(owners, 1) || wins(owners, 2) || taken == 9) {
            return wins(owners, 1) ? 1 : wins(owners, 2) ? -1 : 0;
        }
        Integer known = OUTCOMES.get(code(owners));
        if (known != null) {
            return known;
        }
        int best = taken % 2 == 0 ? -1 : 1;
        for (int number = 0; number < 9; number++) {
            if (owners[number] == 0) {
                owners[number] = 1 + taken % 2;
                int next = outcome(owners, taken + 1);
                best = taken % 2 == 0 ? Math.max(best, next) : Math.min(best, next);
                owners[number] = 0;
            }
        }
        OUTCOMES.put(code(owners), best);
        return best;
    }
}
