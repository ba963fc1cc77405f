import java.util.NoSuchElementException;

/** A workshop for squares of numbers whose lines have the same sum; ../shared/DOC.md tells its promises. */
public final class SquareWorkshop {
    public static final int NONE = -1;
    public static final int ROW = 0, COLUMN = 1, DOWN = 2, UP = 3;
    public static final int NORMAL = 0, HALF = 1, CONSTANT = 2, ALL = 3, LIKE = 4, SQUARED = 5, TIMES = 6, UNLIKE = 7;
    public static final int ODD = 0, CROSS = 1, PAIRS = 2, LATIN = 3;

    private static final int LARGEST_SIZE = 12;
    private static final int MOST_CELLS = LARGEST_SIZE * LARGEST_SIZE;
    private static final int LARGEST_NUMBER = 1000000;
    private static final int DRAWERS = 6;
    private static final int LARGEST_ROOM = 6;

    private final Square square = new Square();
    // No call makes an object: what a call needs besides the square is worked out in these two.
    private final Square opened = new Square();
    private final Square draft = new Square();
    private final Shelf drawers = new Shelf();
    private final Shelf past = new Shelf();
    private int pastNext = 0;
    private int pastCount = 0;
    private final Text text = new Text();
    private final int[] page = new int[Product.MOST_BYTES];
    private int pageLength = 0;
    private final Product product = new Product();
    private final Measures measures = new Measures();
    private final Filler filler = new Filler();
    private final Hexagon hexagon = new Hexagon();
    private final Fifteen game = new Fifteen();
    private final Theorem theorem = new Theorem();

    public SquareWorkshop() {
    }

    public int type(long bytes) throws IllegalStateException {
        if (!text.hasPlaceFor(bytes)) {
            throw new IllegalStateException("the text would be longer than 400 bytes");
        }
        return text.append(bytes);
    }

    public int clearText() {
        return text.empty();
    }

    public int errorKind() {
        text.parse();
        return text.kind;
    }

    public int errorPlace() {
        text.parse();
        return text.place;
    }

    public int read() throws IllegalStateException {
        text.parse();
        if (text.kind != 0) {
            throw new IllegalStateException("the text is no square");
        }
        remember();
        text.copyTo(square);
        return square.n;
    }

    public int begin(int size) throws IllegalArgumentException {
        if (!isSize(size)) {
            throw new IllegalArgumentException("no such size");
        }
        int before = square.n;
        remember();
        square.blank(size);
        return before;
    }

    public int size() {
        return square.n;
    }

    public int at(int row, int column) throws IndexOutOfBoundsException {
        checkCell(row, column);
        return square.number(row, column);
    }

    public int set(int row, int column, int number) throws IndexOutOfBoundsException, IllegalStateException {
        checkCell(row, column);
        checkNumber(number);
        int before = square.number(row, column);
        remember();
        square.put(row, column, number);
        return before;
    }

    public long sum(int sort, int line) throws IllegalArgumentException, IndexOutOfBoundsException {
        checkLine(sort, line);
        return square.lineSum(sort, line);
    }

    public int writeProduct(int sort, int line) throws IllegalArgumentException, IndexOutOfBoundsException {
        checkLine(sort, line);
        product.ofLine(square, sort, line);
        pageLength = product.writeOn(page);
        return pageLength;
    }

    public int pageAt(int index) throws IndexOutOfBoundsException {
        if (index < 0 || index >= pageLength) {
            throw new IndexOutOfBoundsException("the page has no such byte");
        }
        return page[index];
    }

    public int firstOff() {
        return measures.firstOtherLine(square);
    }

    public boolean is(int what) throws IllegalArgumentException {
        if (what < NORMAL || what > UNLIKE) {
            throw new IllegalArgumentException("no such property");
        }
        return measures.has(square, what);
    }

    public int make(int way, int size) throws IllegalArgumentException {
        if (!isSize(size) || !Ways.suits(way, size)) {
            throw new IllegalArgumentException("no such way, or no size of this way");
        }
        remember();
        Ways.build(way, size, square, draft);
        return square.firstRowSum();
    }

    public int multiply(int drawer)
            throws IndexOutOfBoundsException, NoSuchElementException, IllegalStateException {
        openDrawer(drawer);
        if (square.n * opened.n > LARGEST_SIZE) {
            throw new IllegalStateException("the product would be too large");
        }
        draft.becomeProduct(square, opened);
        checkDraft();
        remember();
        square.become(draft);
        return square.n;
    }

    public int keep(int drawer) throws IndexOutOfBoundsException {
        checkDrawer(drawer);
        int before = drawers.sizeIn(drawer);
        drawers.store(drawer, square);
        return before;
    }

    public int take(int drawer) throws IndexOutOfBoundsException, NoSuchElementException {
        openDrawer(drawer);
        remember();
        square.become(opened);
        return square.n;
    }

    public boolean isSame(int drawer) throws IndexOutOfBoundsException, NoSuchElementException {
        openDrawer(drawer);
        return square.hasForm(opened);
    }

    public int turn() {
        remember();
        bringIntoForm(Square.TURNED);
        return square.number(0, 0);
    }

    public int mirror() {
        remember();
        bringIntoForm(Square.MIRRORED);
        return square.number(0, square.n - 1);
    }

    public int exchange(int one, int other) throws IndexOutOfBoundsException, IllegalArgumentException {
        int last = square.n - 1;
        if (one < 0 || one > last || other < 0 || other > last) {
            throw new IndexOutOfBoundsException("no such row");
        }
        if (one != other && (one == last - one || other == last - other)) {
            throw new IllegalArgumentException("just one of both is the middle row");
        }
        remember();
        if (one != other) {
            square.swapRowsAndColumns(one, other);
            if (other != last - one) {
                square.swapRowsAndColumns(last - one, last - other);
            }
        }
        return square.number(0, 0);
    }

    public int turnOver() {
        remember();
        return square.reflectNumbers();
    }

    public int least() {
        int form = square.leastForm();
        remember();
        bringIntoForm(form);
        return form;
    }

    public int forms() {
        int same = 1;
        for (int form = 1; form < Square.FORMS; form++) {
            if (Square.compare(square, form, square, 0) == 0) {
                same++;
            }
        }
        return Square.FORMS / same;
    }

    public int add(int drawer) throws IndexOutOfBoundsException, NoSuchElementException, IllegalArgumentException,
            IllegalStateException {
        openDrawer(drawer);
        if (opened.n != square.n) {
            throw new IllegalArgumentException("the square in the drawer has another size");
        }
        draft.becomeSum(square, opened);
        checkDraft();
        remember();
        square.become(draft);
        return square.firstRowSum();
    }

    public int times(int factor) throws IllegalStateException {
        int cells = square.cellCount();
        for (int cell = 0; cell < cells; cell++) {
            checkNumber((long) square.cells[cell] * factor);
        }
        remember();
        for (int cell = 0; cell < cells; cell++) {
            square.cells[cell] *= factor;
        }
        return square.firstRowSum();
    }

    public int dimension(int size, int what) throws IllegalArgumentException {
        if (size < 1 || size > LARGEST_ROOM || what < HALF || what > LIKE) {
            throw new IllegalArgumentException("no such size, or no such property");
        }
        return Theorem.dimensionOfRoom(size, what);
    }

    public int fillings() throws IllegalStateException {
        checkFillable();
        return filler.countAll();
    }

    public int fill(int index) throws IllegalStateException, IndexOutOfBoundsException {
        checkFillable();
        if (index < 0 || !filler.find(index)) {
            throw new IndexOutOfBoundsException("no such filling");
        }
        remember();
        filler.copyTo(square);
        return square.number(0, 0);
    }

    public int walk() {
        return measures.stepsThatAreNoKnights(square);
    }

    public int hexAt(int cell) throws IndexOutOfBoundsException {
        checkHexCell(cell);
        return hexagon.numberIn(cell);
    }

    public int hexSet(int cell, int number)
            throws IndexOutOfBoundsException, IllegalArgumentException, IllegalStateException {
        checkHexCell(cell);
        if (number < 0 || number > Hexagon.CELLS) {
            throw new IllegalArgumentException("no number of the hexagon");
        }
        if (number != 0 && hexagon.hasElsewhere(number, cell)) {
            throw new IllegalStateException("another cell has this number");
        }
        return hexagon.replace(cell, number);
    }

    public int hexSum(int line) throws IndexOutOfBoundsException {
        if (line < 0 || line >= Hexagon.LINES) {
            throw new IndexOutOfBoundsException("no such line of the hexagon");
        }
        return hexagon.lineSum(line);
    }

    public int hexFillings() throws IllegalStateException {
        checkHexFillable();
        return hexagon.countFillings();
    }

    public int hexFill(int index) throws IllegalStateException, IndexOutOfBoundsException {
        checkHexFillable();
        int filling = index < 0 ? NONE : hexagon.findFilling(index);
        if (filling == NONE) {
            throw new IndexOutOfBoundsException("no such filling of the hexagon");
        }
        hexagon.takeFilling(filling);
        return hexagon.numberIn(0);
    }

    public int cubeAt(int size, int layer, int row, int column)
            throws IllegalArgumentException, IndexOutOfBoundsException {
        checkCube(size);
        if (layer < 0 || layer >= size || row < 0 || row >= size || column < 0 || column >= size) {
            throw new IndexOutOfBoundsException("no such cell of the cube");
        }
        return Cube.number(size, layer, row, column);
    }

    public int cubeErrors(int size) throws IllegalArgumentException {
        checkCube(size);
        return Cube.wrongLines(size) + Cube.missingNumbers(size, measures.places);
    }

    public int pick(int number) throws IllegalArgumentException, IllegalStateException {
        if (number < 1 || number > Fifteen.NUMBERS || game.isTaken(number)) {
            throw new IllegalArgumentException("no number of the game, or taken");
        }
        checkGame();
        return game.give(number);
    }

    public int newGame() {
        return game.restart();
    }

    public int winner() {
        return game.whoHasWon();
    }

    public int outcome() {
        return game.bestOutcome();
    }

    public int bestPick() throws IllegalStateException {
        checkGame();
        return game.leastBestNumber();
    }

    public int undo() {
        if (pastCount == 0) {
            return NONE;
        }
        pastNext = (pastNext + Shelf.PLACES - 1) % Shelf.PLACES;
        pastCount--;
        past.load(pastNext, square);
        return pastCount;
    }

    public int errors() {
        return theorem.failuresOfForms(square, measures) + theorem.failuresOfWays(measures)
                + theorem.failuresOfRooms();
    }

    public double meanNumber() {
        int cells = square.cellCount();
        long all = 0;
        for (int cell = 0; cell < cells; cell++) {
            all += square.cells[cell];
        }
        return (double) all / (double) cells;
    }

    public float zeroShare() {
        int cells = square.cellCount();
        int zeros = 0;
        for (int cell = 0; cell < cells; cell++) {
            if (square.cells[cell] == 0) {
                zeros++;
            }
        }
        return (float) zeros / (float) cells;
    }

    // Each change calls this first, and only when nothing can be refused any more.
    private void remember() {
        past.store(pastNext, square);
        pastNext = (pastNext + 1) % Shelf.PLACES;
        if (pastCount < Shelf.PLACES) {
            pastCount++;
        }
    }

    private void bringIntoForm(int form) {
        draft.becomeForm(square, form);
        square.become(draft);
    }

    private void openDrawer(int drawer) throws IndexOutOfBoundsException, NoSuchElementException {
        checkDrawer(drawer);
        if (drawers.sizeIn(drawer) == 0) {
            throw new NoSuchElementException("the drawer is empty");
        }
        drawers.load(drawer, opened);
    }

    /** What is left, 0 or more, behind a division. */
    private static int rest(int number, int divisor) {
        return divisor < 1 ? 0 : Math.floorMod(number, divisor);
    }

    private static boolean isSize(int size) {
        return size >= 1 && size <= LARGEST_SIZE;
    }

    private static void checkDrawer(int drawer) throws IndexOutOfBoundsException {
        if (drawer < 0 || drawer >= DRAWERS) {
            throw new IndexOutOfBoundsException("no such drawer");
        }
    }

    private void checkCell(int row, int column) throws IndexOutOfBoundsException {
        if (row < 0 || row >= square.n || column < 0 || column >= square.n) {
            throw new IndexOutOfBoundsException("no such cell");
        }
    }

    private void checkLine(int sort, int line) throws IllegalArgumentException, IndexOutOfBoundsException {
        if (sort < ROW || sort > UP) {
            throw new IllegalArgumentException("no such sort of lines");
        }
        if (line < 0 || line >= square.n) {
            throw new IndexOutOfBoundsException("no such line");
        }
    }

    private static void checkNumber(long number) throws IllegalStateException {
        if (number < -LARGEST_NUMBER || number > LARGEST_NUMBER) {
            throw new IllegalStateException("a number would be out of range");
        }
    }

    private void checkDraft() throws IllegalStateException {
        int cells = draft.cellCount();
        for (int cell = 0; cell < cells; cell++) {
            checkNumber(draft.cells[cell]);
        }
    }

    private void checkFillable() throws IllegalStateException {
        if (!filler.accepts(square)) {
            throw new IllegalStateException("the square cannot be filled up");
        }
    }

    private static void checkHexCell(int cell) throws IndexOutOfBoundsException {
        if (cell < 0 || cell >= Hexagon.CELLS) {
            throw new IndexOutOfBoundsException("no such cell of the hexagon");
        }
    }

    private void checkHexFillable() throws IllegalStateException {
        if (!hexagon.hasEnough()) {
            throw new IllegalStateException("fewer than 3 cells of the hexagon are not 0");
        }
    }

    private static void checkCube(int size) throws IllegalArgumentException {
        if (size != 3 && size != 5) {
            throw new IllegalArgumentException("no size of a cube");
        }
    }

    private void checkGame() throws IllegalStateException {
        if (game.isOver()) {
            throw new IllegalStateException("the game is over");
        }
    }

    /** A square: its size and, row by row, its numbers. */
    private static final class Square {
        // The eight forms: 0 to 3 are as many quarter turns, 4 to 7 as many less 4 behind mirroring.
        static final int FORMS = 8, TURNED = 1, MIRRORED = 4;

        int n = 1;
        final int[] cells = new int[MOST_CELLS];

        int cellCount() {
            return n * n;
        }

        int number(int row, int column) {
            return cells[row * n + column];
        }

        void put(int row, int column, int number) {
            cells[row * n + column] = number;
        }

        void blank(int newSize) {
            n = newSize;
            for (int cell = 0; cell < n * n; cell++) {
                cells[cell] = 0;
            }
        }

        void become(Square model) {
            n = model.n;
            System.arraycopy(model.cells, 0, cells, 0, n * n);
        }

        /** The place, among the numbers, of a cell of a line. */
        int cellOf(int sort, int line, int step) {
            if (sort == ROW) {
                return line * n + step;
            }
            int column = line;
            if (sort == DOWN) {
                column = line + step < n ? line + step : line + step - n;
            } else if (sort == UP) {
                column = line >= step ? line - step : line - step + n;
            }
            return step * n + column;
        }

        long lineSum(int sort, int line) {
            long sum = 0;
            for (int step = 0; step < n; step++) {
                sum += cells[cellOf(sort, line, step)];
            }
            return sum;
        }

        long lineSumOfSquares(int sort, int line) {
            long sum = 0;
            for (int step = 0; step < n; step++) {
                long number = cells[cellOf(sort, line, step)];
                sum += number * number;
            }
            return sum;
        }

        int firstRowSum() {
            return (int) lineSum(ROW, 0);
        }

        void becomeProduct(Square outer, Square inner) {
            n = outer.n * inner.n;
            for (int row = 0; row < outer.n; row++) {
                for (int column = 0; column < outer.n; column++) {
                    putBlock(row, column, inner.cellCount() * (outer.number(row, column) - 1), inner);
                }
            }
        }

        private void putBlock(int row, int column, int start, Square inner) {
            int b = inner.n;
            for (int u = 0; u < b; u++) {
                for (int v = 0; v < b; v++) {
                    put(b * row + u, b * column + v, start + inner.number(u, v));
                }
            }
        }

        void becomeSum(Square one, Square other) {
            n = one.n;
            for (int cell = 0; cell < n * n; cell++) {
                cells[cell] = one.cells[cell] + other.cells[cell];
            }
        }

        void swapRowsAndColumns(int one, int other) {
            for (int column = 0; column < n; column++) {
                swap(one * n + column, other * n + column);
            }
            for (int row = 0; row < n; row++) {
                swap(row * n + one, row * n + other);
            }
        }

        private void swap(int cell, int otherCell) {
            int number = cells[cell];
            cells[cell] = cells[otherCell];
            cells[otherCell] = number;
        }

        int reflectNumbers() {
            int lowest = cells[0];
            int highest = cells[0];
            for (int cell = 1; cell < n * n; cell++) {
                lowest = Math.min(lowest, cells[cell]);
                highest = Math.max(highest, cells[cell]);
            }
            for (int cell = 0; cell < n * n; cell++) {
                cells[cell] = lowest + highest - cells[cell];
            }
            return lowest + highest;
        }

        void becomeForm(Square model, int form) {
            n = model.n;
            int start = model.formStart(form);
            int rowStep = model.formRowStep(form);
            int columnStep = model.formColumnStep(form);
            for (int row = 0; row < n; row++) {
                for (int column = 0; column < n; column++) {
                    put(row, column, model.cells[start + row * rowStep + column * columnStep]);
                }
            }
        }

        boolean hasForm(Square model) {
            if (n != model.n) {
                return false;
            }
            for (int form = 0; form < FORMS; form++) {
                if (compare(this, form, model, 0) == 0) {
                    return true;
                }
            }
            return false;
        }

        int leastForm() {
            int best = 0;
            for (int form = 1; form < FORMS; form++) {
                if (compare(this, form, this, best) < 0) {
                    best = form;
                }
            }
            return best;
        }

        /** Compares a form of a square with a form of another one of the same size, row by row. */
        static int compare(Square one, int form, Square other, int otherForm) {
            int start = one.formStart(form);
            int rowStep = one.formRowStep(form);
            int columnStep = one.formColumnStep(form);
            int otherStart = other.formStart(otherForm);
            int otherRowStep = other.formRowStep(otherForm);
            int otherColumnStep = other.formColumnStep(otherForm);
            for (int row = 0; row < one.n; row++) {
                for (int column = 0; column < one.n; column++) {
                    int number = one.cells[start + row * rowStep + column * columnStep];
                    int against = other.cells[otherStart + row * otherRowStep + column * otherColumnStep];
                    if (number != against) {
                        return number < against ? -1 : 1;
                    }
                }
            }
            return 0;
        }

        /** The place of the number that a form has in row 0 and column 0. */
        private int formStart(int form) {
            switch (form) {
                case 1:
                case 7:
                    return (n - 1) * n;
                case 2:
                case 6:
                    return n * n - 1;
                case 3:
                case 5:
                    return n - 1;
                default:
                    return 0;
            }
        }

        /** How far on the number stands that a form has one row below. */
        private int formRowStep(int form) {
            switch (form) {
                case 1:
                case 4:
                    return 1;
                case 2:
                case 7:
                    return -n;
                case 3:
                case 6:
                    return -1;
                default:
                    return n;
            }
        }

        /** How far on the number stands that a form has one column to the right. */
        private int formColumnStep(int form) {
            switch (form) {
                case 1:
                case 6:
                    return -n;
                case 2:
                case 5:
                    return -1;
                case 3:
                case 4:
                    return n;
                default:
                    return 1;
            }
        }
    }

    /** Places for copies of squares: the drawers, of which there are fewer, and what can be undone. */
    private static final class Shelf {
        static final int PLACES = 8;

        private final int[] sizes = new int[PLACES];
        private final int[] numbers = new int[PLACES * MOST_CELLS];

        /** The size of the square in a place; 0 if it is empty. */
        int sizeIn(int place) {
            return sizes[place];
        }

        void store(int place, Square model) {
            sizes[place] = model.n;
            System.arraycopy(model.cells, 0, numbers, place * MOST_CELLS, model.cellCount());
        }

        void load(int place, Square target) {
            target.n = sizes[place];
            System.arraycopy(numbers, place * MOST_CELLS, target.cells, 0, target.cellCount());
        }
    }

    /** The text, and what it says as a square. */
    private static final class Text {
        private static final int MOST_BYTES = 400;
        private static final int WRONG_BYTE = 1, OUT_OF_RANGE = 2, TOO_MANY = 3, NOT_SQUARE = 4;
        // Where the reading stands: no number of the row yet, behind blanks, behind a minus, behind a digit.
        private static final int AHEAD = 0, BETWEEN = 1, BEHIND_MINUS = 2, IN_NUMBER = 3;

        private final int[] bytes = new int[MOST_BYTES];
        private int length = 0;
        int kind = 0;
        int place = NONE;
        private int state = AHEAD;
        private int start = 0;
        private int value = 0;
        private boolean negative = false;
        private int rows = 0;
        private final int[] counts = new int[LARGEST_SIZE];
        private final int[] firsts = new int[LARGEST_SIZE];
        private final int[] numbers = new int[MOST_CELLS];

        boolean hasPlaceFor(long word) {
            int needed = 0;
            for (int shift = 56; shift >= 0; shift -= 8) {
                if (((word >>> shift) & 255) != 0) {
                    needed++;
                }
            }
            return length + needed <= MOST_BYTES;
        }

        int append(long word) {
            for (int shift = 56; shift >= 0; shift -= 8) {
                int next = (int) ((word >>> shift) & 255);
                if (next != 0 && length < MOST_BYTES) {
                    bytes[length] = next;
                    length++;
                }
            }
            return length;
        }

        int empty() {
            int before = length;
            length = 0;
            return before;
        }

        void parse() {
            kind = 0;
            place = NONE;
            state = AHEAD;
            rows = 1;
            counts[0] = 0;
            for (int at = 0; at < length && kind == 0; at++) {
                parseByte(at, bytes[at]);
            }
            if (kind == 0) {
                parseEnd();
            }
            if (kind == 0) {
                compareRows();
            }
        }

        void copyTo(Square target) {
            target.n = rows;
            for (int row = 0; row < rows; row++) {
                for (int column = 0; column < rows; column++) {
                    target.put(row, column, numbers[row * LARGEST_SIZE + column]);
                }
            }
        }

        private void fail(int newKind, int newPlace) {
            kind = newKind;
            place = newPlace;
        }

        private void parseByte(int at, int next) {
            if (next >= '0' && next <= '9') {
                parseDigit(at, next - '0');
                return;
            }
            if (state == IN_NUMBER) {
                endNumber();
            }
            // What is wrong with a number stands ahead of what is wrong with the byte behind it.
            if (kind != 0) {
                return;
            }
            boolean rowHasNumber = state == IN_NUMBER || state == BETWEEN;
            if (next == ' ' && state != BEHIND_MINUS) {
                state = rowHasNumber ? BETWEEN : AHEAD;
            } else if (next == ';' && rowHasNumber) {
                beginRow(at);
            } else if (next == '-' && (state == AHEAD || state == BETWEEN)) {
                beginNumber(at, true);
            } else {
                fail(WRONG_BYTE, at);
            }
        }

        private void parseDigit(int at, int digit) {
            if (state == AHEAD || state == BETWEEN) {
                beginNumber(at, false);
            }
            state = IN_NUMBER;
            // Once it is too large it may stay as it is, so that no number of digits is too much.
            if (value <= LARGEST_NUMBER) {
                value = 10 * value + digit;
            }
        }

        private void beginNumber(int at, boolean withMinus) {
            start = at;
            value = 0;
            negative = withMinus;
            state = withMinus ? BEHIND_MINUS : IN_NUMBER;
        }

        private void endNumber() {
            int row = rows - 1;
            int column = counts[row];
            if (value > LARGEST_NUMBER) {
                fail(OUT_OF_RANGE, start);
            } else if (column == LARGEST_SIZE) {
                fail(TOO_MANY, start);
            } else {
                if (column == 0) {
                    firsts[row] = start;
                }
                numbers[row * LARGEST_SIZE + column] = negative ? -value : value;
                counts[row]++;
            }
        }

        private void beginRow(int at) {
            if (rows == LARGEST_SIZE) {
                fail(TOO_MANY, at);
            } else {
                counts[rows] = 0;
                rows++;
                state = AHEAD;
            }
        }

        private void parseEnd() {
            if (state == IN_NUMBER) {
                endNumber();
            } else if (state != BETWEEN) {
                fail(WRONG_BYTE, length);
            }
        }

        private void compareRows() {
            for (int row = 0; row < rows && kind == 0; row++) {
                if (counts[row] != rows) {
                    fail(NOT_SQUARE, firsts[row]);
                }
            }
        }
    }

    /** A product of up to twelve numbers, which no long holds. */
    private static final class Product {
        private static final int DIGITS_OF_A_PART = 9;
        private static final long BASE = 1000000000L;
        // Twelve numbers of at most 10^6 multiply to at most 10^72: nine parts hold it.
        private static final int MOST_PARTS = 9;
        static final int MOST_BYTES = MOST_PARTS * DIGITS_OF_A_PART + 1;

        private final long[] parts = new long[MOST_PARTS];
        private int used = 0;
        private int sign = 0;

        void ofLine(Square square, int sort, int line) {
            parts[0] = 1;
            used = 1;
            sign = 1;
            for (int step = 0; step < square.n; step++) {
                multiplyBy(square.cells[square.cellOf(sort, line, step)]);
            }
        }

        private void multiplyBy(int number) {
            if (number == 0 || sign == 0) {
                sign = 0;
                used = 0;
                return;
            }
            if (number < 0) {
                sign = -sign;
            }
            long factor = Math.abs(number);
            long carry = 0;
            for (int part = 0; part < used; part++) {
                long whole = parts[part] * factor + carry;
                parts[part] = whole % BASE;
                carry = whole / BASE;
            }
            if (carry != 0 && used < MOST_PARTS) {
                parts[used] = carry;
                used++;
            }
        }

        boolean matches(Product other) {
            if (sign != other.sign || used != other.used) {
                return false;
            }
            for (int part = 0; part < used; part++) {
                if (parts[part] != other.parts[part]) {
                    return false;
                }
            }
            return true;
        }

        int writeOn(int[] page) {
            if (sign == 0) {
                page[0] = '0';
                return 1;
            }
            int length = 0;
            for (int part = 0; part < used; part++) {
                long rest = parts[part];
                for (int digit = 0; digit < DIGITS_OF_A_PART; digit++) {
                    if (rest != 0 || part < used - 1) {
                        page[length] = (int) ('0' + rest % 10);
                        length++;
                    }
                    rest /= 10;
                }
            }
            if (sign < 0) {
                page[length] = '-';
                length++;
            }
            reverse(page, length);
            return length;
        }

        private static void reverse(int[] page, int length) {
            for (int from = 0, to = length - 1; from < to; from++, to--) {
                int kept = page[from];
                page[from] = page[to];
                page[to] = kept;
            }
        }
    }

    /** Tells what properties a square has. */
    private static final class Measures {
        private static final int ROW_UNIT = 16;

        // Row and column of each number of a NORMAL square; the cube counts its numbers here, too.
        final int[] places = new int[MOST_CELLS + 1];
        private final Product first = new Product();
        private final Product next = new Product();

        boolean has(Square square, int what) {
            switch (what) {
                case NORMAL:
                    return isNormal(square);
                case HALF:
                    return isHalf(square);
                case CONSTANT:
                    return isHalf(square) && diagonalsAgree(square);
                case ALL:
                    return isHalf(square) && allDiagonalsAgree(square);
                case LIKE:
                    return isLike(square);
                case SQUARED:
                    return isHalf(square) && diagonalsAgree(square) && hasConstantSquares(square);
                case TIMES:
                    return hasOneProduct(square);
                case UNLIKE:
                    return isUnlike(square);
                default:
                    return false;
            }
        }

        int firstOtherLine(Square square) {
            int n = square.n;
            long sum = square.lineSum(ROW, 0);
            for (int sort = ROW; sort <= COLUMN; sort++) {
                for (int line = 0; line < n; line++) {
                    if (square.lineSum(sort, line) != sum) {
                        return 100 * sort + line;
                    }
                }
            }
            if (square.lineSum(DOWN, 0) != sum) {
                return 100 * DOWN;
            }
            return square.lineSum(UP, n - 1) != sum ? 100 * UP + n - 1 : NONE;
        }

        int stepsThatAreNoKnights(Square square) {
            if (!isNormal(square)) {
                return NONE;
            }
            int cells = square.cellCount();
            int others = 0;
            for (int number = 1; number < cells; number++) {
                int here = places[number];
                int there = places[number + 1];
                int rows = Math.abs(here / ROW_UNIT - there / ROW_UNIT);
                int columns = Math.abs(here % ROW_UNIT - there % ROW_UNIT);
                // Of two steps only 1 and 2 have the product 2.
                if (rows * columns != 2) {
                    others++;
                }
            }
            return others;
        }

        private boolean isNormal(Square square) {
            int cells = square.cellCount();
            for (int number = 1; number <= cells; number++) {
                places[number] = NONE;
            }
            for (int row = 0; row < square.n; row++) {
                for (int column = 0; column < square.n; column++) {
                    int number = square.number(row, column);
                    if (number < 1 || number > cells || places[number] != NONE) {
                        return false;
                    }
                    places[number] = ROW_UNIT * row + column;
                }
            }
            return true;
        }

        private static boolean linesAgree(Square square, int sort, long sum) {
            for (int line = 0; line < square.n; line++) {
                if (square.lineSum(sort, line) != sum) {
                    return false;
                }
            }
            return true;
        }

        private static boolean isHalf(Square square) {
            long sum = square.lineSum(ROW, 0);
            return linesAgree(square, ROW, sum) && linesAgree(square, COLUMN, sum);
        }

        private static boolean diagonalsAgree(Square square) {
            long sum = square.lineSum(ROW, 0);
            return square.lineSum(DOWN, 0) == sum && square.lineSum(UP, square.n - 1) == sum;
        }

        private static boolean allDiagonalsAgree(Square square) {
            long sum = square.lineSum(ROW, 0);
            return linesAgree(square, DOWN, sum) && linesAgree(square, UP, sum);
        }

        private static boolean isLike(Square square) {
            int last = square.cellCount() - 1;
            int sum = square.cells[0] + square.cells[last];
            for (int cell = 1; cell <= last; cell++) {
                if (square.cells[cell] + square.cells[last - cell] != sum) {
                    return false;
                }
            }
            return true;
        }

        private static boolean hasConstantSquares(Square square) {
            int n = square.n;
            long sum = square.lineSumOfSquares(ROW, 0);
            for (int line = 0; line < n; line++) {
                if (square.lineSumOfSquares(ROW, line) != sum || square.lineSumOfSquares(COLUMN, line) != sum) {
                    return false;
                }
            }
            return square.lineSumOfSquares(DOWN, 0) == sum && square.lineSumOfSquares(UP, n - 1) == sum;
        }

        private boolean hasOneProduct(Square square) {
            first.ofLine(square, ROW, 0);
            for (int line = 0; line < square.n; line++) {
                if (!hasFirstProduct(square, ROW, line) || !hasFirstProduct(square, COLUMN, line)) {
                    return false;
                }
            }
            return hasFirstProduct(square, DOWN, 0) && hasFirstProduct(square, UP, square.n - 1);
        }

        private boolean hasFirstProduct(Square square, int sort, int line) {
            next.ofLine(square, sort, line);
            return next.matches(first);
        }

        private static boolean isUnlike(Square square) {
            for (int line = 0; line < square.n; line++) {
                if (hasTwice(square, ROW, line) || hasTwice(square, COLUMN, line)) {
                    return false;
                }
            }
            return true;
        }

        private static boolean hasTwice(Square square, int sort, int line) {
            for (int step = 1; step < square.n; step++) {
                int number = square.cells[square.cellOf(sort, line, step)];
                for (int before = 0; before < step; before++) {
                    if (square.cells[square.cellOf(sort, line, before)] == number) {
                        return true;
                    }
                }
            }
            return false;
        }
    }

    /** The old ways to make squares. */
    private static final class Ways {
        static boolean suits(int way, int size) {
            switch (way) {
                case ODD:
                    return size % 2 == 1;
                case CROSS:
                    return size % 4 == 0;
                case PAIRS:
                    return size >= 6 && size % 4 == 2;
                case LATIN:
                    return size >= 5 && size % 2 == 1 && size % 3 != 0;
                default:
                    return false;
            }
        }

        static void build(int way, int size, Square target, Square helper) {
            switch (way) {
                case ODD:
                    buildOdd(size, target);
                    break;
                case CROSS:
                    buildCross(size, target);
                    break;
                case PAIRS:
                    buildPairs(size, target, helper);
                    break;
                default:
                    buildLatin(size, target);
                    break;
            }
        }

        private static void buildOdd(int n, Square target) {
            target.blank(n);
            int row = 0;
            int column = n / 2;
            for (int number = 1; number <= n * n; number++) {
                target.put(row, column, number);
                int rowAbove = row == 0 ? n - 1 : row - 1;
                int columnBeside = column == n - 1 ? 0 : column + 1;
                if (target.number(rowAbove, columnBeside) == 0) {
                    row = rowAbove;
                    column = columnBeside;
                } else {
                    row = row == n - 1 ? 0 : row + 1;
                }
            }
        }

        private static void buildCross(int n, Square target) {
            target.blank(n);
            for (int row = 0; row < n; row++) {
                for (int column = 0; column < n; column++) {
                    int number = n * row + column + 1;
                    boolean crossed = row % 4 == column % 4 || row % 4 + column % 4 == 3;
                    target.put(row, column, crossed ? n * n + 1 - number : number);
                }
            }
        }

        private static void buildPairs(int n, Square target, Square odd) {
            int m = n / 4;
            buildOdd(2 * m + 1, odd);
            target.blank(n);
            for (int row = 0; row < odd.n; row++) {
                for (int column = 0; column < odd.n; column++) {
                    boolean isMiddle = column == m;
                    // The middle cells of the two rows in which L ends have changed their signs.
                    int lastOfL = isMiddle ? (m - 1) : m;
                    boolean isL = row <= lastOfL || isMiddle && row == m + 1;
                    boolean isX = row > m + 1;
                    putFour(target, 2 * row, 2 * column, 4 * odd.number(row, column) - 3, isL, isX);
                }
            }
        }

        private static void putFour(Square target, int row, int column, int least, boolean isL, boolean isX) {
            target.put(row, column, isL ? least + 3 : least);
            target.put(row, column + 1, isL ? least : least + 3);
            target.put(row + 1, column, isX ? least + 2 : least + 1);
            target.put(row + 1, column + 1, isX ? least + 1 : least + 2);
        }

        private static void buildLatin(int n, Square target) {
            target.blank(n);
            for (int row = 0; row < n; row++) {
                for (int column = 0; column < n; column++) {
                    int high = rest(row + 2 * column, n);
                    int low = rest(2 * row + column, n);
                    target.put(row, column, n * high + low + 1);
                }
            }
        }
    }

    /** Fills up squares of the sizes 3 and 4. */
    private static final class Filler {
        private static final int MOST = 16;
        private static final int LEAST_GIVEN_OF_FOUR = 4;
        // An index behind all: the size 4 has 7040 squares in all.
        private static final int MORE_THAN_ALL = 1000000;
        private static final int GROUPS = 14;
        private static final int GROUPS_OF_A_CELL = 4;

        private int n = 3;
        private int cellCount = 9;
        private int target = 0;
        private final int[] given = new int[MOST];
        private final int[] cells = new int[MOST];
        private int used = 0;
        private final int[] trail = new int[MOST];
        private int trailLength = 0;
        private final int[] groupsOf = new int[MOST * GROUPS_OF_A_CELL];
        private final int[] sums = new int[GROUPS];
        private final int[] gaps = new int[GROUPS];
        private int found = 0;
        private int wanted = 0;

        /** Takes the numbers of a square; answers false if it is none that can have fillings told. */
        boolean accepts(Square square) {
            if (square.n != 3 && square.n != 4) {
                return false;
            }
            n = square.n;
            cellCount = n * n;
            target = n * (cellCount + 1) / 2;
            int seen = 0;
            for (int cell = 0; cell < cellCount; cell++) {
                int number = square.cells[cell];
                if (number < 0 || number > cellCount || number != 0 && (seen >> number & 1) == 1) {
                    return false;
                }
                given[cell] = number;
                seen |= number == 0 ? 0 : 1 << number;
            }
            return n == 3 || Integer.bitCount(seen) >= LEAST_GIVEN_OF_FOUR;
        }

        int countAll() {
            run(MORE_THAN_ALL);
            return found;
        }

        boolean find(int index) {
            return run(index);
        }

        void copyTo(Square square) {
            square.n = n;
            System.arraycopy(cells, 0, square.cells, 0, cellCount);
        }

        private boolean run(int index) {
            wanted = index;
            found = 0;
            clear();
            for (int cell = 0; cell < cellCount; cell++) {
                if (given[cell] != 0) {
                    put(cell, given[cell]);
                }
            }
            return follow(0) && search(this, 0);
        }

        private void clear() {
            used = 0;
            trailLength = 0;
            for (int group = 0; group < GROUPS; group++) {
                sums[group] = 0;
                gaps[group] = 0;
            }
            for (int row = 0; row < n; row++) {
                for (int column = 0; column < n; column++) {
                    cells[row * n + column] = 0;
                    groupCell(row, column);
                }
            }
        }

        private void groupCell(int row, int column) {
            int cell = row * n + column;
            joinGroup(cell, 0, row);
            joinGroup(cell, 1, n + column);
            int diagonal = row == column ? 2 * n : NONE;
            joinGroup(cell, 2, row + column == n - 1 ? 2 * n + 1 : diagonal);
            joinGroup(cell, 3, row == column && row + column == n - 1 ? 2 * n : NONE);
            if (n == 4) {
                // The four corners of a CONSTANT square of the size 4 have the sum of a line, and so have
                // its four inner cells and the four ones in the middle of opposite sides: this is seen
                // early, and spares most of the search.
                boolean edgeRow = row == 0 || row == 3;
                boolean edgeColumn = column == 0 || column == 3;
                joinGroup(cell, 3, 10 + (edgeRow ? 0 : 1) + (edgeColumn ? 0 : 2));
            }
        }

        private void joinGroup(int cell, int which, int group) {
            groupsOf[cell * GROUPS_OF_A_CELL + which] = group;
            if (group != NONE) {
                gaps[group] |= 1 << cell;
            }
        }

        private void put(int cell, int number) {
            cells[cell] = number;
            used |= 1 << number;
            trail[trailLength] = cell;
            trailLength++;
            for (int which = 0; which < GROUPS_OF_A_CELL; which++) {
                int group = groupsOf[cell * GROUPS_OF_A_CELL + which];
                if (group != NONE) {
                    sums[group] += number;
                    gaps[group] &= ~(1 << cell);
                }
            }
        }

        private void takeBack(int mark) {
            for (int step = trailLength - 1; step >= mark; step--) {
                int cell = trail[step];
                int number = cells[cell];
                cells[cell] = 0;
                used &= ~(1 << number);
                for (int which = 0; which < GROUPS_OF_A_CELL; which++) {
                    int group = groupsOf[cell * GROUPS_OF_A_CELL + which];
                    if (group != NONE) {
                        sums[group] -= number;
                        gaps[group] |= 1 << cell;
                    }
                }
            }
            trailLength = mark;
        }

        /** Puts all numbers that must follow from those put since a mark; false if there is none. */
        private boolean follow(int mark) {
            for (int step = mark; step < trailLength && step < MOST; step++) {
                for (int which = 0; which < GROUPS_OF_A_CELL; which++) {
                    int group = groupsOf[trail[step] * GROUPS_OF_A_CELL + which];
                    if (group != NONE && !followGroup(group)) {
                        return false;
                    }
                }
            }
            return true;
        }

        private boolean followGroup(int group) {
            int left = target - sums[group];
            int open = gaps[group];
            if (open == 0) {
                return left == 0;
            }
            int second = open & (open - 1);
            if (second != 0) {
                return (second & (second - 1)) != 0 || hasFreePair(left);
            }
            if (left < 1 || left > cellCount || (used >> left & 1) == 1) {
                return false;
            }
            // The one bit that is set has as many bits below it as its cell has cells ahead of it.
            put(Integer.bitCount(open - 1), left);
            return true;
        }

        /** Whether two different numbers that no cell has make a sum. */
        private boolean hasFreePair(int sum) {
            for (int low = Math.max(1, sum - cellCount); low < sum - low; low++) {
                if (((used >> low | used >> sum - low) & 1) == 0) {
                    return true;
                }
            }
            return false;
        }

        /** Fills the first empty cell with each number: so the fillings come in their order. */
        private static boolean search(Filler filler, int depth) {
            if (depth > MOST) {
                return false;
            }
            if (filler.trailLength == filler.cellCount) {
                filler.found++;
                return filler.found > filler.wanted;
            }
            int cell = filler.firstEmpty();
            int mark = filler.trailLength;
            for (int number = 1; number <= filler.cellCount; number++) {
                if ((filler.used >> number & 1) == 0) {
                    filler.put(cell, number);
                    if (filler.follow(mark) && search(filler, depth + 1)) {
                        return true;
                    }
                    filler.takeBack(mark);
                }
            }
            return false;
        }

        private int firstEmpty() {
            for (int cell = 0; cell < cellCount; cell++) {
                if (cells[cell] == 0) {
                    return cell;
                }
            }
            return 0;
        }
    }

    /** The hexagon of 19 cells. */
    private static final class Hexagon {
        static final int CELLS = 19;
        static final int LINES = 15;
        private static final int LEAST_GIVEN = 3;
        // The cells of the lines, one line behind the other, and where each line begins.
        private static final int[] LINE_CELLS = {
            0, 1, 2, 3, 4, 5, 6, 7, 8, 9, 10, 11, 12, 13, 14, 15, 16, 17, 18,
            7, 12, 16, 3, 8, 13, 17, 0, 4, 9, 14, 18, 1, 5, 10, 15, 2, 6, 11,
            0, 3, 7, 1, 4, 8, 12, 2, 5, 9, 13, 16, 6, 10, 14, 17, 11, 15, 18
        };
        private static final int[] LINE_STARTS = {0, 3, 7, 12, 16, 19, 22, 26, 31, 35, 38, 41, 45, 50, 54, 57};
        private static final int FILLINGS = 12;
        // There is one filling of the empty hexagon but for turning and mirroring; its twelve forms stand
        // here in their order. A search in HexagonTest finds just these.
        private static final int[] FILLING_CELLS = {
            3, 17, 18, 19, 7, 1, 11, 16, 2, 5, 6, 9, 12, 4, 8, 14, 10, 13, 15,
            3, 19, 16, 17, 7, 2, 12, 18, 1, 5, 4, 10, 11, 6, 8, 13, 9, 14, 15,
            9, 11, 18, 14, 6, 1, 17, 15, 8, 5, 7, 3, 13, 4, 2, 19, 10, 12, 16,
            9, 14, 15, 11, 6, 8, 13, 18, 1, 5, 4, 10, 17, 7, 2, 12, 3, 19, 16,
            10, 12, 16, 13, 4, 2, 19, 15, 8, 5, 7, 3, 14, 6, 1, 17, 9, 11, 18,
            10, 13, 15, 12, 4, 8, 14, 16, 2, 5, 6, 9, 19, 7, 1, 11, 3, 17, 18,
            15, 13, 10, 14, 8, 4, 12, 9, 6, 5, 2, 16, 11, 1, 7, 19, 18, 17, 3,
            15, 14, 9, 13, 8, 6, 11, 10, 4, 5, 1, 18, 12, 2, 7, 17, 16, 19, 3,
            16, 12, 10, 19, 2, 4, 13, 3, 7, 5, 8, 15, 17, 1, 6, 14, 18, 11, 9,
            16, 19, 3, 12, 2, 7, 17, 10, 4, 5, 1, 18, 13, 8, 6, 11, 15, 14, 9,
            18, 11, 9, 17, 1, 6, 14, 3, 7, 5, 8, 15, 19, 2, 4, 13, 16, 12, 10,
            18, 17, 3, 11, 1, 7, 19, 9, 6, 5, 2, 16, 14, 8, 4, 12, 15, 13, 10
        };

        private final int[] numbers = new int[CELLS];

        int numberIn(int cell) {
            return numbers[cell];
        }

        boolean hasElsewhere(int number, int cell) {
            for (int each = 0; each < CELLS; each++) {
                if (each != cell && numbers[each] == number) {
                    return true;
                }
            }
            return false;
        }

        int replace(int cell, int number) {
            int before = numbers[cell];
            numbers[cell] = number;
            return before;
        }

        int lineSum(int line) {
            int sum = 0;
            for (int step = LINE_STARTS[line]; step < LINE_STARTS[line + 1]; step++) {
                sum += numbers[LINE_CELLS[step]];
            }
            return sum;
        }

        boolean hasEnough() {
            int count = 0;
            for (int cell = 0; cell < CELLS; cell++) {
                if (numbers[cell] != 0) {
                    count++;
                }
            }
            return count >= LEAST_GIVEN;
        }

        int countFillings() {
            int count = 0;
            for (int filling = 0; filling < FILLINGS; filling++) {
                if (agreesWith(filling)) {
                    count++;
                }
            }
            return count;
        }

        int findFilling(int index) {
            int count = 0;
            for (int filling = 0; filling < FILLINGS; filling++) {
                if (agreesWith(filling)) {
                    if (count == index) {
                        return filling;
                    }
                    count++;
                }
            }
            return NONE;
        }

        void takeFilling(int filling) {
            System.arraycopy(FILLING_CELLS, filling * CELLS, numbers, 0, CELLS);
        }

        private boolean agreesWith(int filling) {
            for (int cell = 0; cell < CELLS; cell++) {
                if (numbers[cell] != 0 && numbers[cell] != FILLING_CELLS[filling * CELLS + cell]) {
                    return false;
                }
            }
            return true;
        }
    }

    /** The cubes of the sizes 3 and 5. */
    private static final class Cube {
        static int number(int n, int layer, int row, int column) {
            int i = layer + 1;
            int j = row + 1;
            int k = column + 1;
            int high = rest(i - j + k - 1, n);
            int middle = rest(i - j - k, n);
            int low = rest(i + j + k - 2, n);
            return n * n * high + n * middle + low + 1;
        }

        static int wrongLines(int n) {
            int last = n - 1;
            int wrong = 0;
            for (int a = 0; a < n; a++) {
                for (int b = 0; b < n; b++) {
                    wrong += wrongLine(n, a, b, 0, 0, 0, 1);
                    wrong += wrongLine(n, a, 0, b, 0, 1, 0);
                    wrong += wrongLine(n, 0, a, b, 1, 0, 0);
                }
            }
            wrong += wrongLine(n, 0, 0, 0, 1, 1, 1);
            wrong += wrongLine(n, 0, 0, last, 1, 1, -1);
            wrong += wrongLine(n, 0, last, 0, 1, -1, 1);
            wrong += wrongLine(n, 0, last, last, 1, -1, -1);
            return wrong;
        }

        /** 1 if the line from a cell on, in a direction, has another sum than it must; otherwise 0. */
        private static int wrongLine(int n, int layer, int row, int column, int down, int back, int right) {
            int sum = 0;
            for (int step = 0; step < n; step++) {
                sum += number(n, layer + step * down, row + step * back, column + step * right);
            }
            return sum == n * (n * n * n + 1) / 2 ? 0 : 1;
        }

        static int missingNumbers(int n, int[] counts) {
            int cells = n * n * n;
            for (int number = 1; number <= cells && number < counts.length; number++) {
                counts[number] = 0;
            }
            for (int layer = 0; layer < n; layer++) {
                for (int row = 0; row < n; row++) {
                    for (int column = 0; column < n; column++) {
                        int number = number(n, layer, row, column);
                        if (number > 0 && number < counts.length) {
                            counts[number]++;
                        }
                    }
                }
            }
            int missing = 0;
            for (int number = 1; number <= cells && number < counts.length; number++) {
                missing += counts[number] == 0 ? 1 : 0;
            }
            return missing;
        }
    }

    /** The game in which three numbers must make fifteen; a number is the bit with its number. */
    private static final class Fifteen {
        static final int NUMBERS = 9;
        private static final int ALL_BITS = (1 << NUMBERS + 1) - 2;
        private static final int[] TRIPLES = {
            1 << 1 | 1 << 5 | 1 << 9, 1 << 1 | 1 << 6 | 1 << 8, 1 << 2 | 1 << 4 | 1 << 9, 1 << 2 | 1 << 5 | 1 << 8,
            1 << 2 | 1 << 6 | 1 << 7, 1 << 3 | 1 << 4 | 1 << 8, 1 << 3 | 1 << 5 | 1 << 7, 1 << 4 | 1 << 5 | 1 << 6
        };

        // The number in the most triples first, then those in three, then those in two: this finds soonest
        // what the others need not be looked at for.
        private static final int[] BEST_FIRST = {5, 2, 4, 6, 8, 1, 3, 7, 9};

        private int ofFirst = 0;
        private int ofSecond = 0;

        boolean isTaken(int number) {
            return ((ofFirst | ofSecond) >> number & 1) == 1;
        }

        int give(int number) {
            if (isTurnOfFirst()) {
                ofFirst |= 1 << number;
            } else {
                ofSecond |= 1 << number;
            }
            return countTaken();
        }

        int restart() {
            int before = countTaken();
            ofFirst = 0;
            ofSecond = 0;
            return before;
        }

        int whoHasWon() {
            if (hasTriple(ofFirst)) {
                return 0;
            }
            return hasTriple(ofSecond) ? 1 : NONE;
        }

        boolean isOver() {
            return countTaken() == NUMBERS || whoHasWon() != NONE;
        }

        int bestOutcome() {
            int ofMover = bestOfMover();
            return isTurnOfFirst() ? ofMover : -ofMover;
        }

        int leastBestNumber() {
            int best = bestOfMover();
            int mine = isTurnOfFirst() ? ofFirst : ofSecond;
            int theirs = isTurnOfFirst() ? ofSecond : ofFirst;
            for (int number = 1; number <= NUMBERS; number++) {
                if (!isTaken(number) && -value(theirs, mine | 1 << number, -1, 1, 0) == best) {
                    return number;
                }
            }
            return NONE;
        }

        private int countTaken() {
            return Integer.bitCount(ofFirst | ofSecond);
        }

        private boolean isTurnOfFirst() {
            return countTaken() % 2 == 0;
        }

        private int bestOfMover() {
            return isTurnOfFirst() ? value(ofFirst, ofSecond, -1, 1, 0) : value(ofSecond, ofFirst, -1, 1, 0);
        }

        private static boolean hasTriple(int numbers) {
            for (int each = 0; each < TRIPLES.length; each++) {
                if ((numbers & TRIPLES[each]) == TRIPLES[each]) {
                    return true;
                }
            }
            return false;
        }

        /** The free numbers that would be the third one of a triple. */
        private static int completing(int numbers, int free) {
            int bits = 0;
            for (int each = 0; each < TRIPLES.length; each++) {
                int rest = TRIPLES[each] & ~numbers;
                if ((rest & (rest - 1)) == 0) {
                    bits |= rest & free;
                }
            }
            return bits;
        }

        /**
         * What the player whose turn it is reaches: 1 wins, -1 loses, 0 neither; it need be right only
         * between a floor and a ceiling: one that is not above the floor, or not below the ceiling, tells
         * just this.
         */
        private static int value(int mine, int theirs, int floor, int ceiling, int depth) {
            if (hasTriple(theirs)) {
                return -1;
            }
            int free = ALL_BITS & ~(mine | theirs);
            if (free == 0 || depth > NUMBERS) {
                return 0;
            }
            if (completing(mine, free) != 0) {
                return 1;
            }
            // Who does not take the number with which the other one would win has lost.
            int threats = completing(theirs, free);
            int candidates = threats == 0 ? free : threats & -threats;
            int best = floor;
            for (int each = 0; each < NUMBERS && best < ceiling; each++) {
                int bit = 1 << BEST_FIRST[each];
                if ((candidates & bit) != 0) {
                    best = Math.max(best, -value(theirs, mine | bit, -ceiling, -best, depth + 1));
                }
            }
            return best;
        }
    }

    /** What is known of all squares, and the checks of it. */
    private static final class Theorem {
        private static final int LARGEST_CHECKED_ROOM = 4;
        private static final int MOST_RULES = 2 * LARGEST_CHECKED_ROOM + 1;
        private static final int MOST_CELLS_OF_ROOM = LARGEST_CHECKED_ROOM * LARGEST_CHECKED_ROOM;

        private final Square made = new Square();
        private final Square helper = new Square();
        private final int[] rules = new int[MOST_RULES * MOST_CELLS_OF_ROOM];
        private int ruleCount = 0;
        private int width = 0;

        static int dimensionOfRoom(int n, int what) {
            switch (what) {
                case HALF:
                    return (n - 1) * (n - 1) + 1;
                case CONSTANT:
                    return n < 3 ? 1 : n * (n - 2);
                case ALL:
                    // In even sizes the DOWNs of even numbers have the cells of UPs: one rule less counts.
                    return (n - 2) * (n - 2) + (n % 2 == 0 ? 1 : 0);
                default:
                    return n * n / 2 + 1;
            }
        }

        int failuresOfForms(Square square, Measures measures) {
            int least = square.leastForm();
            int properties = propertiesOf(square, measures);
            int failures = 0;
            for (int form = 1; form < Square.FORMS; form++) {
                made.becomeForm(square, form);
                if (Square.compare(made, made.leastForm(), square, least) != 0) {
                    failures++;
                }
                failures += Integer.bitCount(properties ^ propertiesOf(made, measures));
            }
            return failures;
        }

        /** Those of the properties HALF to LIKE that a square has, each as the bit with its number. */
        private static int propertiesOf(Square square, Measures measures) {
            int bits = 0;
            for (int what = HALF; what <= LIKE; what++) {
                bits |= measures.has(square, what) ? 1 << what : 0;
            }
            return bits;
        }

        int failuresOfWays(Measures measures) {
            int failures = 0;
            for (int way = ODD; way <= LATIN; way++) {
                for (int size = 1; size <= LARGEST_SIZE; size++) {
                    if (Ways.suits(way, size)) {
                        Ways.build(way, size, made, helper);
                        boolean right = measures.has(made, NORMAL) && measures.has(made, way == LATIN ? ALL : CONSTANT);
                        failures += right ? 0 : 1;
                    }
                }
            }
            return failures;
        }

        int failuresOfRooms() {
            int failures = 0;
            for (int size = 1; size <= LARGEST_CHECKED_ROOM; size++) {
                writeRules(size);
                if (dimensionOfRoom(size, CONSTANT) != size * size - countFreeRules()) {
                    failures++;
                }
            }
            return failures;
        }

        /** Writes the rules of CONSTANT: that a line less the ROW 0 is 0. */
        private void writeRules(int size) {
            made.blank(size);
            width = size * size;
            ruleCount = 0;
            for (int line = 1; line < size; line++) {
                writeRule(ROW, line);
            }
            for (int line = 0; line < size; line++) {
                writeRule(COLUMN, line);
            }
            writeRule(DOWN, 0);
            writeRule(UP, size - 1);
        }

        private void writeRule(int sort, int line) {
            int start = ruleCount * width;
            for (int cell = 0; cell < width; cell++) {
                rules[start + cell] = 0;
            }
            for (int step = 0; step < made.n; step++) {
                rules[start + made.cellOf(sort, line, step)]++;
                rules[start + made.cellOf(ROW, 0, step)]--;
            }
            ruleCount++;
        }

        /** How many rules hang on none of the others: the rank, in whole numbers alone. */
        private int countFreeRules() {
            int rank = 0;
            int divisor = 1;
            for (int column = 0; column < width && rank < ruleCount; column++) {
                int pivotRow = findPivot(rank, column);
                if (pivotRow != NONE) {
                    swapRules(rank, pivotRow);
                    reduceBelow(rank, column, divisor);
                    divisor = rules[rank * width + column];
                    rank++;
                }
            }
            return rank;
        }

        private int findPivot(int from, int column) {
            for (int row = from; row < ruleCount; row++) {
                if (rules[row * width + column] != 0) {
                    return row;
                }
            }
            return NONE;
        }

        private void swapRules(int one, int other) {
            for (int column = 0; column < width && one != other; column++) {
                int kept = rules[one * width + column];
                rules[one * width + column] = rules[other * width + column];
                rules[other * width + column] = kept;
            }
        }

        // The pivot ahead divides without a rest (Bareiss), so that the numbers stay small.
        private void reduceBelow(int rank, int column, int divisor) {
            int pivot = rules[rank * width + column];
            for (int row = rank + 1; row < ruleCount; row++) {
                int factor = rules[row * width + column];
                for (int each = column; each < width && divisor != 0; each++) {
                    int number = pivot * rules[row * width + each] - factor * rules[rank * width + each];
                    rules[row * width + each] = number / divisor;
                }
            }
        }
    }
}
