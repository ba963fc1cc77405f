/** Promises 18 to 20, 27, 28 and 45: the drawers, sums and multiples of squares, and undoing. */
public final class DrawersTest {
    public static void main(String[] args) {
        checkKeepAndTake();
        checkSame();
        checkAdd();
        checkTimes();
        checkUndo();
        Check.finish();
    }

    private static void checkKeepAndTake() {
        SquareWorkshop x = Check.with("1 2;3 4");
        Check.due("promise 18: an empty drawer", 0, () -> x.keep(0));
        Check.due("promise 18: the size that it had", 2, () -> x.keep(0));
        Check.due("promise 18: no change", 0, x::undo);
        x.begin(3);
        x.set(1, 1, 5);
        Check.due("promise 18: the last drawer", 0, () -> x.keep(5));
        Check.due("promise 19: the size", 2, () -> x.take(0));
        Check.due("promise 19: the copy", "1 2;3 4", () -> Check.square(x));
        Check.due("promise 19: a change", 2, x::undo);
        Check.due("promise 19: undone", "0 0 0;0 5 0;0 0 0", () -> Check.square(x));
        x.set(0, 0, 9);
        Check.due("promise 18: a copy, not the square", 3, () -> x.take(5));
        Check.due("promise 18: the number then", 0, () -> x.at(0, 0));
        x.set(0, 0, 8);
        x.take(5);
        Check.due("promise 19: a copy, not the drawer's", 0, () -> x.at(0, 0));
        Check.due("promise 18: another size in its place", 3, () -> x.keep(5));
        x.take(0);
        Check.due("promise 18: in place of the one of the size 3", 3, () -> x.keep(5));
        for (int drawer : new int[] {-1, 6, 7, Integer.MIN_VALUE, Integer.MAX_VALUE}) {
            Check.index("promise 18: no such drawer", () -> x.keep(drawer));
            Check.index("promise 19: no such drawer", () -> x.take(drawer));
            Check.index("promise 20: no such drawer", () -> x.isSame(drawer));
            Check.index("promise 27: no such drawer", () -> x.add(drawer));
        }
        for (int drawer = 1; drawer < 5; drawer++) {
            int each = drawer;
            Check.element("promise 19: an empty drawer", () -> x.take(each));
            Check.element("promise 20: an empty drawer", () -> x.isSame(each));
            Check.element("promise 27: an empty drawer", () -> x.add(each));
        }
        Check.unchanged("promises 18 to 27: what throws", x, "1 2;3 4", 7);
    }

    private static void checkSame() {
        SquareWorkshop x = Check.with("8 1 6;3 5 7;4 9 2");
        x.keep(0);
        for (int each = 0; each < 4; each++) {
            Check.due("promise 20: turned", true, () -> x.isSame(0));
            x.mirror();
            Check.due("promise 20: mirrored", true, () -> x.isSame(0));
            x.mirror();
            x.turn();
        }
        x.undo();
        Check.due("promise 20: nothing is changed", "6 7 2;1 5 9;8 3 4", () -> Check.square(x));
        x.set(1, 1, 6);
        Check.due("promise 20: another number", false, () -> x.isSame(0));
        x.begin(2);
        Check.due("promise 20: another size", false, () -> x.isSame(0));
    }

    private static void checkAdd() {
        SquareWorkshop x = Check.with("1 -2;30 4");
        x.keep(0);
        x.begin(2);
        x.set(0, 0, 5);
        x.set(0, 1, 100);
        x.set(1, 1, -7);
        Check.due("promise 27: the sum of the ROW 0", 104, () -> x.add(0));
        Check.due("promise 27: the sums", "6 98;30 -3", () -> Check.square(x));
        Check.due("promise 27: a change", 5, x::undo);
        x.take(0);
        Check.due("promise 27: the drawer stays", "1 -2;30 4", () -> Check.square(x));
        SquareWorkshop y = Check.with("1 2 3;4 5 6;7 8 9");
        y.keep(0);
        Check.due("promise 27: the size 3", 12, () -> y.add(0));
        Check.due("promise 27: all its cells", "2 4 6;8 10 12;14 16 18", () -> Check.square(y));
        x.begin(3);
        Check.argument("promise 27: another size", () -> x.add(0));
        x.begin(2);
        x.set(1, 1, 1000000);
        x.keep(1);
        x.begin(3);
        x.set(2, 2, 1000000);
        Check.argument("promise 27: the first of two exceptions", () -> x.add(1));
        x.begin(2);
        x.set(1, 1, 1);
        Check.state("promise 27: 1000001", () -> x.add(1));
        Check.unchanged("promise 27: what throws", x, "0 0;0 1", 8);
        Check.due("promise 27: 1000000", 0, () -> x.add(1));
        Check.due("promise 27: at the edge", 1000000, () -> x.at(1, 1));
        x.set(1, 1, -1000000);
        x.keep(2);
        x.set(1, 1, 0);
        Check.due("promise 27: -1000000", 0, () -> x.add(2));
        x.set(1, 1, -1);
        Check.state("promise 27: -1000001", () -> x.add(2));
    }

    private static void checkTimes() {
        SquareWorkshop x = Check.with("1 2;-3 4");
        Check.due("promise 28: the sum of the ROW 0", -21, () -> x.times(-7));
        Check.due("promise 28: the numbers", "-7 -14;21 -28", () -> Check.square(x));
        Check.due("promise 28: a change", 1, x::undo);
        Check.due("promise 28: 1000000", 750000, () -> x.times(250000));
        Check.due("promise 28: at the edge", "250000 500000;-750000 1000000", () -> Check.square(x));
        x.undo();
        Check.state("promise 28: 1000004", () -> x.times(250001));
        Check.state("promise 28: -1000004", () -> x.times(-250001));
        Check.state("promise 28: what no int holds", () -> x.times(1 << 30));
        Check.state("promise 28: the least int", () -> x.times(Integer.MIN_VALUE));
        Check.unchanged("promise 28: what throws", x, "1 2;-3 4", 1);
        Check.due("promise 28: zeros times any number", 0, () -> x.times(Integer.MIN_VALUE));
        Check.due("promise 28: zero", "0", () -> Check.square(x));
        SquareWorkshop y = Check.with("1000000");
        Check.due("promise 28: times 0", 0, () -> y.times(0));
        SquareWorkshop z = Check.with("65536");
        Check.state("promise 28: what wraps round to 0", () -> z.times(65536));
    }

    private static void checkUndo() {
        SquareWorkshop x = new SquareWorkshop();
        Check.due("promise 45: nothing to undo", -1, x::undo);
        for (int number = 1; number <= 10; number++) {
            x.set(0, 0, number);
        }
        for (int left = 7; left >= 0; left--) {
            Check.due("promise 45: how many can be undone then", left, x::undo);
            int want = left + 2;
            Check.due("promise 45: the number ahead", want, () -> x.at(0, 0));
        }
        Check.due("promise 45: the latest 8 alone", -1, x::undo);
        Check.due("promise 45: nothing changes then", 2, () -> x.at(0, 0));
        x.set(0, 0, 7);
        x.begin(12);
        x.begin(3);
        Check.due("promise 45: between changes", 2, x::undo);
        x.turn();
        x.mirror();
        x.undo();
        x.undo();
        Check.due("promise 45: the size, too", 12, x::size);
        Check.due("promise 45: and on", 1, x::undo);
        Check.due("promise 45: the number 7", "7", () -> Check.square(x));
        Check.due("promise 45: and on", 0, x::undo);
        Check.due("promise 45: the number 2", "2", () -> Check.square(x));
        checkOtherState();
    }

    private static void checkOtherState() {
        SquareWorkshop x = new SquareWorkshop();
        x.begin(2);
        x.keep(0);
        x.type(0x31);
        x.writeProduct(0, 0);
        x.hexSet(0, 5);
        x.pick(5);
        Check.due("promise 45: the square alone", 0, x::undo);
        Check.due("promise 45: the drawer stays", 2, () -> x.keep(0));
        Check.due("promise 45: the text stays", 1, x::clearText);
        Check.due("promise 45: the page stays", "0", () -> Check.page(x, 1));
        Check.due("promise 45: the hexagon stays", 5, () -> x.hexAt(0));
        Check.due("promise 45: the game stays", 1, x::newGame);
        Check.due("promise 45: these are no changes", -1, x::undo);
    }
}
