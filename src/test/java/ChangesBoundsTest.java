/** The bounds of promises 18 to 20, 27, 28 and 45: six drawers, the edges of the numbers, the latest 8 changes. */
public final class ChangesBoundsTest {
    private static final Twin.Way AS_IT_IS = x -> { };

    public static void main(String[] args) {
        checkDrawers();
        checkSizesInDrawers();
        checkSame();
        checkSums();
        checkMultiples();
        checkWhatIsAChange();
        checkWhatIsNoChange();
        checkTheLatestEight();
        checkRoundAndRound();
        checkSizesThatAreUndone();
        checkTheSquareAlone();
        checkAllCalls();
        checkThatNothingChanges();
        Check.finish();
    }

    private static SquareWorkshop numbered(int number) {
        SquareWorkshop x = new SquareWorkshop();
        x.set(0, 0, number);
        return x;
    }

    private static void checkDrawers() {
        SquareWorkshop x = new SquareWorkshop();
        for (int drawer = 0; drawer < 6; drawer++) {
            int each = drawer;
            Check.element("section 2: the drawer " + drawer + " is empty at first", () -> x.take(each));
            Check.element("promise 20: it is empty at first", () -> x.isSame(each));
            Check.element("promise 27: it is empty at first", () -> x.add(each));
            Check.element("promise 17: it is empty at first", () -> x.multiply(each));
        }
        for (int drawer = 0; drawer < 6; drawer++) {
            int each = drawer;
            x.begin(drawer + 1);
            x.set(drawer, drawer, 100 + drawer);
            Check.due("promise 18: the empty drawer " + drawer, 0, () -> x.keep(each));
        }
        for (int drawer : new int[] {-1, 6}) {
            Check.index("section 2: no drawer " + drawer, () -> x.keep(drawer));
            Check.index("section 2: no drawer " + drawer, () -> x.take(drawer));
            Check.index("section 2: no drawer " + drawer, () -> x.isSame(drawer));
            Check.index("section 2: no drawer " + drawer, () -> x.add(drawer));
            Check.index("section 2: no drawer " + drawer, () -> x.multiply(drawer));
        }
        for (int drawer = 5; drawer >= 0; drawer--) {
            int each = drawer;
            Check.due("promise 19: the size in the drawer " + drawer, drawer + 1, () -> x.take(each));
            Check.due("promise 19: its last number", 100 + drawer, () -> x.at(each, each));
            Check.due("promise 18: the size that it had", drawer + 1, () -> x.keep(each));
            Check.due("promise 20: it is one of its forms", true, () -> x.isSame(each));
        }
    }

    private static void checkSizesInDrawers() {
        SquareWorkshop x = new SquareWorkshop();
        x.begin(12);
        for (int cell = 0; cell < 144; cell++) {
            x.set(cell / 12, cell % 12, cell - 1000000);
        }
        Check.due("promise 18: the size 12", 0, () -> x.keep(5));
        x.begin(1);
        x.keep(4);
        Check.due("promise 18: a small one in its place", 12, () -> x.keep(5));
        x.undo();
        Check.due("promise 18: the large one again", 1, () -> x.keep(5));
        x.begin(2);
        Check.due("promise 19: the size 12", 12, () -> x.take(5));
        Check.due("promise 19: its first number", -1000000, () -> x.at(0, 0));
        Check.due("promise 19: its last number", -999857, () -> x.at(11, 11));
        Check.due("promise 19: one between", -999988, () -> x.at(1, 0));
        Check.due("promise 19: the size 1", 1, () -> x.take(4));
        Check.due("promise 19: its number", 0, () -> x.at(0, 0));
        x.set(0, 0, 3);
        Check.due("promise 19: the drawer has a copy", 1, () -> x.take(4));
        Check.due("promise 19: the drawer's number stays", 0, () -> x.at(0, 0));
    }

    private static void same(String one, String other, boolean want) {
        SquareWorkshop x = Check.with(one);
        x.keep(0);
        x.clearText();
        Check.typed(x, other).read();
        Check.due("promise 20: " + one + " is a form of " + other, want, () -> x.isSame(0));
    }

    private static void checkSame() {
        String[] forms = {"1 2 3;4 5 6;7 8 9", "7 4 1;8 5 2;9 6 3", "9 8 7;6 5 4;3 2 1", "3 6 9;2 5 8;1 4 7",
            "1 4 7;2 5 8;3 6 9", "3 2 1;6 5 4;9 8 7", "9 6 3;8 5 2;7 4 1", "7 8 9;4 5 6;1 2 3"};
        for (String one : forms) {
            for (String other : forms) {
                same(one, other, true);
            }
        }
        same("1 2 3;4 5 6;7 8 9", "1 2 3;4 5 6;7 9 8", false);
        same("1 2 3;4 5 6;7 8 9", "2 1 3;4 5 6;7 8 9", false);
        same("1 2 3;4 5 6;7 8 9", "1 2 3;4 0 6;7 8 9", false);
        same("1 2;3 4", "1 2;4 3", false);
        same("5", "5", true);
        same("5", "-5", false);
        same("5", "5 5;5 5", false);
        same("5 5;5 5", "5", false);
        same("5 5;5 5", "5 5;5 5", true);
        same("0 0 0;0 0 0;0 0 0", "0 0;0 0", false);
    }

    private static void added(int inDrawer, int number, int want) {
        SquareWorkshop x = numbered(inDrawer);
        x.keep(0);
        x.set(0, 0, number);
        Check.due("promise 27: " + number + " and " + inDrawer, want, () -> x.add(0));
        Check.due("promise 27: the number then", want, () -> x.at(0, 0));
    }

    private static void checkSums() {
        added(1, 999999, 1000000);
        added(999999, 1, 1000000);
        added(-1, -999999, -1000000);
        added(1000000, 0, 1000000);
        added(0, -1000000, -1000000);
        added(1000000, -1000000, 0);
        added(-1000000, 1000000, 0);
        SquareWorkshop x = new SquareWorkshop();
        for (int n = 1; n <= 12; n++) {
            x.begin(n);
            x.set(n - 1, n - 1, 500000);
            x.set(0, 0, 500000);
            x.keep(3);
            int size = n;
            Check.due("promise 27: to itself, " + n, 1000000, () -> x.add(3));
            Check.due("promise 27: the last number of " + n, 1000000, () -> x.at(size - 1, size - 1));
            x.begin(n == 12 ? 1 : n + 1);
            Check.argument("promise 27: another size than " + n, () -> x.add(3));
        }
        SquareWorkshop y = new SquareWorkshop();
        for (int corner = 0; corner < 4; corner++) {
            int row = corner / 2 * 11;
            int column = corner % 2 * 11;
            y.begin(12);
            y.set(row, column, 1);
            y.keep(0);
            y.set(row, column, 1000000);
            Check.state("promise 27: one number of 144 would be above, " + corner, () -> y.add(0));
            Check.due("promise 27: it stays", 1000000, () -> y.at(row, column));
            y.set(row, column, 999999);
            Check.due("promise 27: none would be", row == 0 ? 1000000 : 0, () -> y.add(0));
        }
    }

    private static void multiplied(int number, int factor) {
        SquareWorkshop x = numbered(number);
        Check.due("promise 28: " + number + " by " + factor, number * factor, () -> x.times(factor));
        Check.due("promise 28: the number then", number * factor, () -> x.at(0, 0));
        Check.due("promise 28: it is a change", 1, x::undo);
    }

    private static void checkMultiples() {
        multiplied(1, 1000000);
        multiplied(1, -1000000);
        multiplied(-1, 1000000);
        multiplied(-1, -1000000);
        multiplied(1000000, 1);
        multiplied(1000000, -1);
        multiplied(-1000000, -1);
        multiplied(1000000, 0);
        multiplied(1000, 1000);
        multiplied(-1000, 1000);
        multiplied(333333, 3);
        multiplied(0, 1);
        SquareWorkshop zeros = new SquareWorkshop();
        for (int factor : new int[] {Integer.MAX_VALUE, Integer.MIN_VALUE, 1000001, -1000001, 0, -1}) {
            Check.due("promise 28: 0 by any number, " + factor, 0, () -> zeros.times(factor));
            Check.due("promise 28: 0 then", 0, () -> zeros.at(0, 0));
        }
        int[][] none = {{1, 1000001}, {-1, 1000001}, {1, -1000001}, {333334, 3}, {500001, 2}, {500001, -2},
            {1000000, 1000000}, {65536, 65536}, {2, Integer.MIN_VALUE}, {3, 1431655766}};
        for (int[] each : none) {
            SquareWorkshop x = numbered(each[0]);
            Check.state("promise 28: " + each[0] + " by " + each[1], () -> x.times(each[1]));
            Check.due("promise 28: it stays", each[0], () -> x.at(0, 0));
        }
        SquareWorkshop x = new SquareWorkshop();
        x.begin(12);
        x.set(0, 0, 7);
        x.set(11, 11, 500001);
        Check.state("promise 28: the last number of 144 would be above", () -> x.times(2));
        Check.due("promise 28: the first one stays", 7, () -> x.at(0, 0));
        x.set(11, 11, 500000);
        Check.due("promise 28: the sum of the ROW 0 then", 14, () -> x.times(2));
    }

    private static void change(String what, Twin.Way ahead, Twin.Call call) {
        SquareWorkshop x = Twin.busy();
        ahead.run(x);
        String before = Check.square(x);
        call.run(x);
        Check.due("promise 45: " + what + " is a change, and 8 can be undone", 7, x::undo);
        Check.due("promise 45: " + what + " is undone", before, () -> Check.square(x));
    }

    /** The calls that are told to be changes; some of them leave all numbers as they are, and are changes even so. */
    private static void checkWhatIsAChange() {
        Twin.Way even = x -> x.make(SquareWorkshop.CROSS, 4);
        change("read", AS_IT_IS, x -> x.read());
        change("read of what the square is", x -> x.read(), x -> x.read());
        change("begin", AS_IT_IS, x -> x.begin(12));
        change("begin of what the square is", x -> x.begin(3), x -> x.begin(3));
        change("set", AS_IT_IS, x -> x.set(0, 0, 77));
        change("set of the number that is there", AS_IT_IS, x -> x.set(0, 0, 5));
        change("make", AS_IT_IS, x -> x.make(SquareWorkshop.PAIRS, 10));
        change("make of what the square is", even, x -> x.make(SquareWorkshop.CROSS, 4));
        change("multiply", AS_IT_IS, x -> x.multiply(2));
        change("multiply by 1", x -> {
            x.begin(1);
            x.set(0, 0, 1);
            x.keep(1);
            x.begin(12);
        }, x -> x.multiply(1));
        change("take", AS_IT_IS, x -> x.take(2));
        change("take of what the square is", x -> x.keep(4), x -> x.take(4));
        change("turn", even, x -> x.turn());
        change("turn of the size 1", x -> x.begin(1), x -> x.turn());
        change("mirror", even, x -> x.mirror());
        change("mirror of the size 1", x -> x.begin(1), x -> x.mirror());
        change("exchange", even, x -> x.exchange(0, 1));
        change("exchange of a row with itself", even, x -> x.exchange(2, 2));
        change("exchange of the middle row with itself", x -> x.begin(3), x -> x.exchange(1, 1));
        change("turnOver", even, x -> x.turnOver());
        change("turnOver of one number", x -> x.begin(5), x -> x.turnOver());
        change("least", even, x -> x.least());
        change("least of the least form", x -> x.least(), x -> x.least());
        change("add", AS_IT_IS, x -> x.add(0));
        change("add of zeros", x -> {
            x.begin(2);
            x.keep(1);
        }, x -> x.add(1));
        change("times", AS_IT_IS, x -> x.times(3));
        change("times 1", AS_IT_IS, x -> x.times(1));
        change("fill", x -> x.begin(3), x -> x.fill(7));
        change("fill of a full square", x -> x.make(SquareWorkshop.ODD, 3), x -> x.fill(0));
    }

    /** Of a new object nothing can be undone, whatever is called but changes. */
    private static void checkWhatIsNoChange() {
        SquareWorkshop x = new SquareWorkshop();
        x.type('7');
        x.errorKind();
        x.errorPlace();
        x.clearText();
        x.size();
        x.at(0, 0);
        x.sum(0, 0);
        x.writeProduct(0, 0);
        x.pageAt(0);
        x.firstOff();
        x.is(SquareWorkshop.LIKE);
        x.keep(0);
        x.isSame(0);
        x.forms();
        x.dimension(1, 1);
        x.walk();
        x.hexAt(0);
        x.hexSet(0, 3);
        x.hexSet(1, 17);
        x.hexSet(2, 18);
        x.hexSum(0);
        x.hexFillings();
        x.hexFill(0);
        x.cubeAt(3, 0, 0, 0);
        x.cubeErrors(3);
        x.pick(1);
        x.winner();
        x.outcome();
        x.bestPick();
        x.newGame();
        x.errors();
        x.meanNumber();
        x.zeroShare();
        Check.due("promise 45: all other calls are no changes", SquareWorkshop.NONE, x::undo);
        x.begin(3);
        Check.due("promise 30: fillings", 8, x::fillings);
        Check.due("promise 45: fillings is no change", 0, x::undo);
        Check.due("promise 45: and undo is none", SquareWorkshop.NONE, x::undo);
    }

    private static void checkTheLatestEight() {
        for (int changes = 0; changes <= 20; changes++) {
            SquareWorkshop x = new SquareWorkshop();
            for (int number = 1; number <= changes; number++) {
                x.set(0, 0, number);
            }
            int undone = Math.min(changes, 8);
            for (int left = undone - 1; left >= 0; left--) {
                Check.due("promise 45: of " + changes + " changes, left", left, x::undo);
                int want = changes - undone + left;
                Check.due("promise 45: of " + changes + " changes, the number", want, () -> x.at(0, 0));
            }
            int last = changes - undone;
            Check.due("promise 45: no more of " + changes, SquareWorkshop.NONE, x::undo);
            Check.due("promise 45: no more once again", SquareWorkshop.NONE, x::undo);
            Check.due("promise 45: that leaves the number", last, () -> x.at(0, 0));
            x.set(0, 0, -5);
            Check.due("promise 45: the next change can be undone", 0, x::undo);
            Check.due("promise 45: to the number before", last, () -> x.at(0, 0));
        }
    }

    /** Changes and undos in turn, more than any ring of places has: each undo leads to the number before. */
    private static void checkRoundAndRound() {
        for (int ahead = 1; ahead <= 9; ahead++) {
            for (int back = 1; back <= ahead; back++) {
                SquareWorkshop x = new SquareWorkshop();
                int[] numbers = new int[60];
                int changes = 0;
                int undoable = 0;
                for (int round = 0; round < 6; round++) {
                    for (int each = 0; each < ahead; each++) {
                        changes++;
                        numbers[changes] = 100 * round + each + 1;
                        x.set(0, 0, numbers[changes]);
                        undoable = Math.min(undoable + 1, 8);
                    }
                    for (int each = 0; each < back && undoable > 0; each++) {
                        changes--;
                        undoable--;
                        int left = undoable;
                        int want = numbers[changes];
                        Check.due("promise 45: " + ahead + " on and " + back + " back, left", left, x::undo);
                        Check.due("promise 45: " + ahead + " on and " + back + " back", want, () -> x.at(0, 0));
                    }
                }
            }
        }
    }

    private static void checkSizesThatAreUndone() {
        SquareWorkshop x = new SquareWorkshop();
        x.set(0, 0, 9);
        x.begin(12);
        x.set(11, 11, -3);
        x.begin(2);
        x.set(1, 1, 4);
        x.begin(1);
        x.undo();
        Check.due("promise 45: the size 2 again", "0 0;0 4", () -> Check.square(x));
        x.undo();
        x.undo();
        Check.due("promise 45: the size 12 again", 12, x::size);
        Check.due("promise 45: with its last number", -3, () -> x.at(11, 11));
        Check.due("promise 45: and the zeros", 143f / 144f, x::zeroShare);
        x.undo();
        Check.due("promise 45: without it", 1f, x::zeroShare);
        x.undo();
        Check.due("promise 45: the size 1 again", "9", () -> Check.square(x));
    }

    private static void checkTheSquareAlone() {
        SquareWorkshop x = Check.typed(new SquareWorkshop(), "1 2;3 4");
        x.read();
        x.clearText();
        x.keep(2);
        x.writeProduct(0, 1);
        x.hexSet(18, 19);
        x.pick(9);
        Check.due("promise 45: the change is undone", 0, x::undo);
        Check.due("promise 45: the text stays", 0, () -> x.type(0));
        Check.due("promise 45: the drawer stays", 2, () -> x.keep(2));
        Check.due("promise 45: the page stays", "12", () -> Check.page(x, 2));
        Check.due("promise 45: the hexagon stays", 19, () -> x.hexAt(18));
        Check.due("promise 45: the game stays", 1, x::newGame);
    }

    /** The answers of all 512 calls are promised. */
    private static void checkAllCalls() {
        SquareWorkshop x = new SquareWorkshop();
        for (int call = 1; call <= 511; call++) {
            int before = call - 1;
            int number = call;
            Check.due("the call " + call, before, () -> x.set(0, 0, number));
        }
        Check.due("the 512th call", 7, x::undo);
        SquareWorkshop y = new SquareWorkshop();
        for (int call = 1; call <= 400; call++) {
            int length = call;
            Check.due("the call " + call, length, () -> y.type(' '));
        }
        for (int call = 401; call <= 510; call++) {
            Check.state("the call " + call, () -> y.type(' '));
        }
        Check.due("the 511th call", 400, y::clearText);
        Check.due("the 512th call", 1, () -> y.type(' '));
    }

    private static void checkThatNothingChanges() {
        Twin.same("promise 20: isSame of another size", false, AS_IT_IS, x -> x.isSame(2));
        Twin.same("promise 20: isSame", true, x -> {
            x.take(0);
            x.turn();
        }, x -> x.isSame(0));
    }
}
