/** Two workshops that went the same way: one gets one call more, and then both must show the same of all they hold. */
final class Twin {
    private static final String TEXT = "-1 22;333 4";

    private Twin() {
    }

    interface Way {
        void run(SquareWorkshop workshop);
    }

    interface Call {
        Object run(SquareWorkshop workshop);
    }

    static void state(String what, Way ahead, Call call) {
        same(what, "throws java.lang.IllegalStateException", ahead, call);
    }

    static void argument(String what, Way ahead, Call call) {
        same(what, "throws java.lang.IllegalArgumentException", ahead, call);
    }

    static void index(String what, Way ahead, Call call) {
        same(what, "throws java.lang.IndexOutOfBoundsException", ahead, call);
    }

    static void element(String what, Way ahead, Call call) {
        same(what, "throws java.util.NoSuchElementException", ahead, call);
    }

    /** A call behind a way has this answer, and leaves all as it is. */
    static void same(String what, Object want, Way ahead, Call call) {
        SquareWorkshop workshop = busy();
        SquareWorkshop other = busy();
        ahead.run(workshop);
        ahead.run(other);
        Check.due(what, want, () -> call.run(workshop));
        Check.due(what + ": nothing has changed", held(other), () -> held(workshop));
    }

    /**
     * A workshop that holds something everywhere: the square 5 6;7 8 with eight changes to undo, of which each has
     * another square; the sizes 2, 3 and 1 in the drawers 0, 2 and 5; a text, a page, a hexagon and a game.
     */
    static SquareWorkshop busy() {
        SquareWorkshop workshop = Check.typed(new SquareWorkshop(), TEXT);
        workshop.set(0, 0, 9);
        workshop.keep(5);
        workshop.make(SquareWorkshop.ODD, 3);
        workshop.keep(2);
        workshop.writeProduct(SquareWorkshop.UP, 2);
        workshop.read();
        workshop.keep(0);
        workshop.turn();
        workshop.times(-2);
        workshop.begin(2);
        workshop.set(0, 0, 5);
        workshop.set(0, 1, 6);
        workshop.set(1, 0, 7);
        workshop.set(1, 1, 8);
        workshop.hexSet(4, 7);
        workshop.hexSet(9, 19);
        workshop.pick(5);
        workshop.pick(2);
        return workshop;
    }

    /** All that a workshop holds; what it held is used up then. */
    static String held(SquareWorkshop workshop) {
        StringBuilder all = new StringBuilder("square " + shown(workshop));
        all.append(", page ").append(pageOf(workshop));
        all.append(", hexagon");
        for (int cell = 0; cell < 19; cell++) {
            all.append(" ").append(workshop.hexAt(cell));
        }
        all.append(", text ").append(workshop.type(0)).append(" ").append(workshop.errorKind());
        all.append(" ").append(workshop.errorPlace());
        all.append(", game ").append(gameOf(workshop));
        for (int left = workshop.undo(); left != SquareWorkshop.NONE; left = workshop.undo()) {
            all.append(", undone ").append(left).append(" ").append(shown(workshop));
        }
        all.append(", read ").append(Check.answer(workshop::read)).append(" ").append(shown(workshop));
        for (int drawer = 0; drawer < 6; drawer++) {
            int each = drawer;
            all.append(", drawer ").append(Check.answer(() -> workshop.take(each)));
            all.append(" ").append(shown(workshop));
        }
        return all.toString();
    }

    /** The square; a large one by the sums of its lines, so that an object's 512 calls are enough for all. */
    private static String shown(SquareWorkshop workshop) {
        int n = workshop.size();
        if (n <= 6) {
            return Check.square(workshop);
        }
        StringBuilder sums = new StringBuilder();
        for (int line = 0; line < 4 * n; line++) {
            sums.append(workshop.sum(line / n, line % n)).append(" ");
        }
        return sums.toString();
    }

    private static String pageOf(SquareWorkshop workshop) {
        StringBuilder page = new StringBuilder();
        for (Object next = byteOf(workshop, 0); next instanceof Integer; next = byteOf(workshop, page.length())) {
            page.append((char) (int) (Integer) next);
        }
        return page.toString();
    }

    private static Object byteOf(SquareWorkshop workshop, int index) {
        return Check.answer(() -> workshop.pageAt(index));
    }

    /** What the game answers, which numbers are free or taken, and how many were taken. */
    private static String gameOf(SquareWorkshop workshop) {
        StringBuilder game = new StringBuilder();
        game.append(workshop.winner()).append(" ").append(workshop.outcome());
        game.append(" ").append(Check.answer(workshop::bestPick));
        for (int number = 1; number <= 9; number++) {
            int each = number;
            game.append(" ").append(Check.answer(() -> workshop.pick(each)));
        }
        return game.append(" ").append(workshop.newGame()).toString();
    }
}
