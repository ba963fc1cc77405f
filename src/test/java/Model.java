import java.math.BigInteger;
import java.util.ArrayDeque;
import java.util.ArrayList;
import java.util.Arrays;
import java.util.Deque;
import java.util.HashSet;
import java.util.List;
import java.util.NoSuchElementException;
import java.util.Set;
import java.util.TreeSet;
import java.util.regex.Matcher;
import java.util.regex.Pattern;

/** The document once more, as plain as it can be and as slow as it likes: random runs are checked against it. */
public final class Model {
    private static final Pattern WHOLE = Pattern.compile("( *-?\\d+( +-?\\d+)* *)(;( *-?\\d+( +-?\\d+)* *))*");
    private static final Pattern BEGUN = Pattern.compile("( *-?\\d+( +-?\\d+)* *;)*( *(-?\\d+ +)*(-|-?\\d+)?)");
    private static final Pattern NUMBER = Pattern.compile("-?\\d+");
    private static final List<int[]> FOURS = new ArrayList<>();
    private static final List<int[]> HEXAGONS = new ArrayList<>();

    private int[][] square = {{0}};
    private final int[][][] drawers = new int[6][][];
    private final Deque<int[][]> past = new ArrayDeque<>();
    private String text = "";
    private String page = "";
    private final int[] hexagon = new int[19];
    private final List<Integer> picked = new ArrayList<>();

    static {
        FillingsTest.collect(new int[16], 0, 0, FOURS);
        HexagonTest.search(new int[19], 0, HEXAGONS);
    }

    private static void refuse(boolean when, RuntimeException exception) {
        if (when) {
            throw exception;
        }
    }

    private static RuntimeException state() {
        return new IllegalStateException();
    }

    private static RuntimeException argument() {
        return new IllegalArgumentException();
    }

    private static RuntimeException index() {
        return new IndexOutOfBoundsException();
    }

    private void change(int[][] next) {
        past.addLast(square);
        if (past.size() > 8) {
            past.removeFirst();
        }
        square = next;
    }

    private static int[][] copy(int[][] model) {
        int[][] copy = new int[model.length][];
        for (int row = 0; row < model.length; row++) {
            copy[row] = model[row].clone();
        }
        return copy;
    }

    private static boolean inRange(long number) {
        return number >= -1000000 && number <= 1000000;
    }

    public int type(long bytes) {
        StringBuilder more = new StringBuilder();
        for (byte each : BigInteger.valueOf(bytes).toByteArray()) {
            more.append(each != 0 ? String.valueOf((char) (each & 255)) : "");
        }
        // BigInteger leaves out leading bytes that only repeat the sign.
        int left = 8 - BigInteger.valueOf(bytes).toByteArray().length;
        String whole = bytes < 0 ? "\u00ff".repeat(left) + more : more.toString();
        refuse(text.length() + whole.length() > 400, state());
        text += whole;
        return text.length();
    }

    public int clearText() {
        int before = text.length();
        text = "";
        return before;
    }

    /** Kind and place of the first error; {0, -1} without one. */
    private int[] error() {
        int[] first = {0, Integer.MAX_VALUE};
        for (int end = 1; end <= text.length() && first[0] == 0; end++) {
            if (!BEGUN.matcher(text.substring(0, end)).matches()) {
                first = new int[] {1, end - 1};
            }
        }
        if (first[0] == 0 && !WHOLE.matcher(text).matches()) {
            first = new int[] {1, text.length()};
        }
        String good = text.substring(0, Math.min(first[1], text.length()));
        Matcher numbers = NUMBER.matcher(good);
        while (numbers.find()) {
            String ahead = good.substring(good.lastIndexOf(';', numbers.start()) + 1, numbers.start());
            boolean isThirteenth = NUMBER.matcher(ahead).results().count() == 12;
            if (new BigInteger(numbers.group()).abs().compareTo(BigInteger.valueOf(1000000)) > 0) {
                first = earlier(first, 2, numbers.start());
            } else if (isThirteenth) {
                first = earlier(first, 3, numbers.start());
            }
        }
        int separators = 0;
        for (int at = 0; at < good.length(); at++) {
            separators += good.charAt(at) == ';' ? 1 : 0;
            if (good.charAt(at) == ';' && separators == 12) {
                first = earlier(first, 3, at);
            }
        }
        return first[0] != 0 ? first : rowError();
    }

    private static int[] earlier(int[] first, int kind, int place) {
        boolean isEarlier = first[0] == 0 || place < first[1] || place == first[1] && kind < first[0];
        return isEarlier ? new int[] {kind, place} : first;
    }

    private int[] rowError() {
        String[] rows = text.split(";");
        int start = 0;
        for (String row : rows) {
            Matcher numbers = NUMBER.matcher(row);
            numbers.find();
            int place = start + numbers.start();
            if (NUMBER.matcher(row).results().count() != rows.length) {
                return new int[] {4, place};
            }
            start += row.length() + 1;
        }
        return new int[] {0, -1};
    }

    public int errorKind() {
        return error()[0];
    }

    public int errorPlace() {
        return error()[1];
    }

    public int read() {
        refuse(error()[0] != 0, state());
        String[] rows = text.split(";");
        int[][] next = new int[rows.length][];
        for (int row = 0; row < rows.length; row++) {
            next[row] = Arrays.stream(rows[row].trim().split(" +")).mapToInt(Integer::parseInt).toArray();
        }
        change(next);
        return next.length;
    }

    public int begin(int size) {
        refuse(size < 1 || size > 12, argument());
        int before = square.length;
        change(new int[size][size]);
        return before;
    }

    public int size() {
        return square.length;
    }

    private boolean hasNot(int line) {
        return line < 0 || line >= square.length;
    }

    public int at(int row, int column) {
        refuse(hasNot(row) || hasNot(column), index());
        return square[row][column];
    }

    public int set(int row, int column, int number) {
        refuse(hasNot(row) || hasNot(column), index());
        refuse(!inRange(number), state());
        int before = square[row][column];
        change(copy(square));
        square[row][column] = number;
        return before;
    }

    private static int[] line(int[][] of, int sort, int line) {
        int n = of.length;
        int[] numbers = new int[n];
        for (int each = 0; each < n; each++) {
            numbers[each] = sort == 0 ? of[line][each] : sort == 1 ? of[each][line]
                    : sort == 2 ? of[each][(line + each) % n] : of[each][(line - each + n) % n];
        }
        return numbers;
    }

    private static BigInteger total(int[][] of, int sort, int line, int power) {
        BigInteger total = BigInteger.ZERO;
        for (int each : line(of, sort, line)) {
            total = total.add(BigInteger.valueOf(each).pow(power));
        }
        return total;
    }

    private static BigInteger product(int[][] of, int sort, int line) {
        BigInteger product = BigInteger.ONE;
        for (int each : line(of, sort, line)) {
            product = product.multiply(BigInteger.valueOf(each));
        }
        return product;
    }

    public long sum(int sort, int line) {
        refuse(sort < 0 || sort > 3, argument());
        refuse(hasNot(line), index());
        return total(square, sort, line, 1).longValue();
    }

    public int writeProduct(int sort, int line) {
        refuse(sort < 0 || sort > 3, argument());
        refuse(hasNot(line), index());
        page = product(square, sort, line).toString();
        return page.length();
    }

    public int pageAt(int index) {
        refuse(index < 0 || index >= page.length(), index());
        return page.charAt(index);
    }

    public int firstOff() {
        int n = square.length;
        for (int code = 0; code < 400; code++) {
            boolean counts = code % 100 < n && (code < 200 || code == 200 || code == 300 + n - 1);
            if (counts && !total(square, code / 100, code % 100, 1).equals(total(square, 0, 0, 1))) {
                return code;
            }
        }
        return -1;
    }

    /** The totals, or products for the power 0, of all lines of some sorts, or of the two diagonals. */
    private static Set<BigInteger> totals(int[][] of, int power, boolean rows, boolean diagonals, boolean all) {
        Set<BigInteger> totals = new HashSet<>();
        int n = of.length;
        for (int sort = 0; sort < 4; sort++) {
            for (int line = 0; line < n; line++) {
                boolean isDiagonal = sort == 2 && line == 0 || sort == 3 && line == n - 1;
                if (all || rows && sort < 2 || diagonals && isDiagonal) {
                    totals.add(power == 0 ? product(of, sort, line) : total(of, sort, line, power));
                }
            }
        }
        return totals;
    }

    public boolean is(int what) {
        refuse(what < 0 || what > 7, argument());
        return has(square, what);
    }

    static boolean has(int[][] of, int what) {
        int n = of.length;
        boolean isConstant = totals(of, 1, true, true, false).size() == 1;
        if (what == 0) {
            Set<Integer> all = new TreeSet<>();
            for (int[] row : of) {
                for (int each : row) {
                    all.add(each);
                }
            }
            return all.size() == n * n && all.contains(1) && all.contains(n * n)
                    && all.stream().allMatch(each -> each >= 1 && each <= n * n);
        }
        if (what == 4) {
            Set<Integer> sums = new HashSet<>();
            for (int cell = 0; cell < n * n; cell++) {
                sums.add(of[cell / n][cell % n] + of[n - 1 - cell / n][n - 1 - cell % n]);
            }
            return sums.size() == 1;
        }
        if (what == 7) {
            boolean unlike = true;
            for (int line = 0; line < n; line++) {
                unlike &= Arrays.stream(line(of, 0, line)).distinct().count() == n;
                unlike &= Arrays.stream(line(of, 1, line)).distinct().count() == n;
            }
            return unlike;
        }
        return what == 1 ? totals(of, 1, true, false, false).size() == 1 : what == 2 ? isConstant
                : what == 3 ? totals(of, 1, true, true, true).size() == 1
                : what == 5 ? isConstant && totals(of, 2, true, true, false).size() == 1
                : totals(of, 0, true, true, false).size() == 1;
    }

    public int make(int way, int size) {
        boolean suits = way == 0 && size % 2 == 1 || way == 1 && size % 4 == 0 || way == 2 && size % 4 == 2 && size > 2
                || way == 3 && size % 2 == 1 && size % 3 != 0 && size > 1;
        refuse(way < 0 || way > 3 || size < 1 || size > 12 || !suits, argument());
        change(way == 0 ? odd(size) : way == 2 ? pairs(size) : new int[size][size]);
        for (int r = 0; r < size; r++) {
            for (int c = 0; c < size; c++) {
                int number = size * r + c + 1;
                if (way == 1) {
                    boolean crossed = r % 4 == c % 4 || r % 4 + c % 4 == 3;
                    square[r][c] = crossed ? size * size + 1 - number : number;
                } else if (way == 3) {
                    square[r][c] = size * ((r + 2 * c) % size) + (2 * r + c) % size + 1;
                }
            }
        }
        return total(square, 0, 0, 1).intValue();
    }

    private static int[][] odd(int n) {
        int[][] made = new int[n][n];
        int r = 0;
        int c = n / 2;
        made[r][c] = 1;
        for (int number = 2; number <= n * n; number++) {
            int up = (r + n - 1) % n;
            int right = (c + 1) % n;
            boolean taken = made[up][right] != 0;
            r = taken ? (r + 1) % n : up;
            c = taken ? c : right;
            made[r][c] = number;
        }
        return made;
    }

    private static int[][] pairs(int n) {
        int m = (n - 2) / 4;
        int[][] odd = odd(2 * m + 1);
        int[][] made = new int[n][n];
        for (int r = 0; r < 2 * m + 1; r++) {
            for (int c = 0; c < 2 * m + 1; c++) {
                String sign = r <= m ? "4123" : r == m + 1 ? "1423" : "1432";
                sign = r == m && c == m ? "1423" : r == m + 1 && c == m ? "4123" : sign;
                for (int each = 0; each < 4; each++) {
                    made[2 * r + each / 2][2 * c + each % 2] = 4 * (odd[r][c] - 1) + sign.charAt(each) - '0';
                }
            }
        }
        return made;
    }

    private int[][] opened(int drawer) {
        refuse(drawer < 0 || drawer > 5, index());
        refuse(drawers[drawer] == null, new NoSuchElementException());
        return drawers[drawer];
    }

    private static void refuseOutOfRange(long[][] numbers) {
        for (long[] row : numbers) {
            for (long each : row) {
                refuse(!inRange(each), state());
            }
        }
    }

    private static int[][] narrowed(long[][] numbers) {
        refuseOutOfRange(numbers);
        int[][] narrow = new int[numbers.length][];
        for (int row = 0; row < numbers.length; row++) {
            narrow[row] = Arrays.stream(numbers[row]).mapToInt(each -> (int) each).toArray();
        }
        return narrow;
    }

    public int multiply(int drawer) {
        int[][] other = opened(drawer);
        int b = other.length;
        int n = square.length * b;
        refuse(n > 12, state());
        long[][] next = new long[n][n];
        for (int r = 0; r < n; r++) {
            for (int c = 0; c < n; c++) {
                next[r][c] = (long) b * b * (square[r / b][c / b] - 1) + other[r % b][c % b];
            }
        }
        change(narrowed(next));
        return n;
    }

    public int keep(int drawer) {
        refuse(drawer < 0 || drawer > 5, index());
        int before = drawers[drawer] == null ? 0 : drawers[drawer].length;
        drawers[drawer] = copy(square);
        return before;
    }

    public int take(int drawer) {
        change(copy(opened(drawer)));
        return square.length;
    }

    private static List<int[][]> eight(int[][] of) {
        List<int[][]> all = new ArrayList<>();
        int[][] next = of;
        for (int each = 0; each < 8; each++) {
            next = each == 4 ? mirrored(of) : each == 0 ? of : turned(next);
            all.add(next);
        }
        return all;
    }

    private static int[][] turned(int[][] of) {
        int n = of.length;
        int[][] next = new int[n][n];
        for (int r = 0; r < n; r++) {
            for (int c = 0; c < n; c++) {
                next[c][n - 1 - r] = of[r][c];
            }
        }
        return next;
    }

    private static int[][] mirrored(int[][] of) {
        int n = of.length;
        int[][] next = new int[n][n];
        for (int r = 0; r < n; r++) {
            for (int c = 0; c < n; c++) {
                next[c][r] = of[r][c];
            }
        }
        return next;
    }

    private static int compare(int[][] one, int[][] other) {
        for (int row = 0; row < one.length; row++) {
            int compared = Arrays.compare(one[row], other[row]);
            if (compared != 0) {
                return compared;
            }
        }
        return 0;
    }

    public boolean isSame(int drawer) {
        int[][] other = opened(drawer);
        return eight(square).stream().anyMatch(each -> Arrays.deepEquals(each, other));
    }

    public int turn() {
        change(turned(square));
        return square[0][0];
    }

    public int mirror() {
        change(mirrored(square));
        return square[0][square.length - 1];
    }

    public int exchange(int one, int other) {
        int last = square.length - 1;
        refuse(hasNot(one) || hasNot(other), index());
        refuse((one * 2 == last) != (other * 2 == last), argument());
        change(copy(square));
        swapLines(one, other);
        if (other != last - one && one != other) {
            swapLines(last - one, last - other);
        }
        return square[0][0];
    }

    private void swapLines(int one, int other) {
        int[] kept = square[one];
        square[one] = square[other];
        square[other] = kept;
        for (int[] row : square) {
            int number = row[one];
            row[one] = row[other];
            row[other] = number;
        }
    }

    public int turnOver() {
        int least = Arrays.stream(square).flatMapToInt(Arrays::stream).min().getAsInt();
        int most = Arrays.stream(square).flatMapToInt(Arrays::stream).max().getAsInt();
        change(copy(square));
        for (int[] row : square) {
            Arrays.setAll(row, each -> least + most - row[each]);
        }
        return least + most;
    }

    public int least() {
        List<int[][]> all = eight(square);
        int best = 0;
        for (int form = 1; form < 8; form++) {
            best = compare(all.get(form), all.get(best)) < 0 ? form : best;
        }
        change(all.get(best));
        return best;
    }

    public int forms() {
        return (int) eight(square).stream().map(Arrays::deepToString).distinct().count();
    }

    public int add(int drawer) {
        int[][] other = opened(drawer);
        refuse(other.length != square.length, argument());
        long[][] next = new long[square.length][square.length];
        for (int r = 0; r < next.length; r++) {
            for (int c = 0; c < next.length; c++) {
                next[r][c] = square[r][c] + other[r][c];
            }
        }
        change(narrowed(next));
        return total(square, 0, 0, 1).intValue();
    }

    public int times(int factor) {
        long[][] next = new long[square.length][square.length];
        for (int r = 0; r < next.length; r++) {
            for (int c = 0; c < next.length; c++) {
                next[r][c] = (long) square[r][c] * factor;
            }
        }
        change(narrowed(next));
        return total(square, 0, 0, 1).intValue();
    }

    public int dimension(int size, int what) {
        refuse(size < 1 || size > 6 || what < 1 || what > 4, argument());
        return size * size - RoomsTest.rank(RoomsTest.rules(size, what));
    }

    private List<int[]> fillingsOf(int[] given, List<int[]> all) {
        List<int[]> fitting = new ArrayList<>();
        for (int[] each : all) {
            boolean fits = true;
            for (int cell = 0; cell < given.length; cell++) {
                fits &= given[cell] == 0 || given[cell] == each[cell];
            }
            if (fits) {
                fitting.add(each);
            }
        }
        return fitting;
    }

    private List<int[]> squareFillings() {
        int n = square.length;
        refuse(n != 3 && n != 4, state());
        int[] given = Arrays.stream(square).flatMapToInt(Arrays::stream).toArray();
        int[] numbers = Arrays.stream(given).filter(each -> each != 0).toArray();
        refuse(Arrays.stream(numbers).anyMatch(each -> each < 1 || each > n * n), state());
        refuse(Arrays.stream(numbers).distinct().count() != numbers.length, state());
        refuse(n == 4 && numbers.length < 4, state());
        if (n == 4) {
            return fillingsOf(given, FOURS);
        }
        List<int[]> threes = new ArrayList<>();
        for (int[][] each : eight(odd(3))) {
            threes.add(Arrays.stream(each).flatMapToInt(Arrays::stream).toArray());
        }
        threes.sort(Arrays::compare);
        return fillingsOf(given, threes);
    }

    public int fillings() {
        return squareFillings().size();
    }

    public int fill(int index) {
        List<int[]> all = squareFillings();
        refuse(index < 0 || index >= all.size(), index());
        int n = square.length;
        change(new int[n][n]);
        for (int cell = 0; cell < n * n; cell++) {
            square[cell / n][cell % n] = all.get(index)[cell];
        }
        return square[0][0];
    }

    public int walk() {
        int n = square.length;
        if (!has(square, 0)) {
            return -1;
        }
        int[] places = new int[n * n + 1];
        for (int cell = 0; cell < n * n; cell++) {
            places[square[cell / n][cell % n]] = cell;
        }
        int others = 0;
        for (int number = 1; number < n * n; number++) {
            int rows = Math.abs(places[number] / n - places[number + 1] / n);
            int columns = Math.abs(places[number] % n - places[number + 1] % n);
            others += rows == 1 && columns == 2 || rows == 2 && columns == 1 ? 0 : 1;
        }
        return others;
    }

    public int hexAt(int cell) {
        refuse(cell < 0 || cell > 18, index());
        return hexagon[cell];
    }

    public int hexSet(int cell, int number) {
        refuse(cell < 0 || cell > 18, index());
        refuse(number < 0 || number > 19, argument());
        for (int each = 0; each < 19; each++) {
            refuse(each != cell && number != 0 && hexagon[each] == number, state());
        }
        int before = hexagon[cell];
        hexagon[cell] = number;
        return before;
    }

    public int hexSum(int line) {
        refuse(line < 0 || line > 14, index());
        return Arrays.stream(HexagonTest.LINES[line]).map(cell -> hexagon[cell]).sum();
    }

    public int hexFillings() {
        refuse(Arrays.stream(hexagon).filter(each -> each != 0).count() < 3, state());
        return fillingsOf(hexagon, HEXAGONS).size();
    }

    public int hexFill(int index) {
        refuse(Arrays.stream(hexagon).filter(each -> each != 0).count() < 3, state());
        List<int[]> all = fillingsOf(hexagon, HEXAGONS);
        refuse(index < 0 || index >= all.size(), index());
        System.arraycopy(all.get(index), 0, hexagon, 0, 19);
        return hexagon[0];
    }

    public int cubeAt(int size, int layer, int row, int column) {
        refuse(size != 3 && size != 5, argument());
        refuse(layer < 0 || layer >= size || row < 0 || row >= size || column < 0 || column >= size, index());
        int i = layer + 1;
        int j = row + 1;
        int k = column + 1;
        return size * size * ((i - j + k - 1 + 5 * size) % size) + size * ((i - j - k + 5 * size) % size)
                + (i + j + k - 2) % size + 1;
    }

    public int cubeErrors(int size) {
        refuse(size != 3 && size != 5, argument());
        return 0;
    }

    private int[] owners() {
        int[] owners = new int[9];
        for (int each = 0; each < picked.size(); each++) {
            owners[picked.get(each) - 1] = 1 + each % 2;
        }
        return owners;
    }

    private boolean isOver() {
        return picked.size() == 9 || winner() != -1;
    }

    public int pick(int number) {
        refuse(number < 1 || number > 9 || picked.contains(number), argument());
        refuse(isOver(), state());
        picked.add(number);
        return picked.size();
    }

    public int newGame() {
        int before = picked.size();
        picked.clear();
        return before;
    }

    public int winner() {
        return FifteenTest.wins(owners(), 1) ? 0 : FifteenTest.wins(owners(), 2) ? 1 : -1;
    }

    public int outcome() {
        return FifteenTest.outcome(owners(), picked.size());
    }

    public int bestPick() {
        refuse(isOver(), state());
        int outcome = outcome();
        for (int number = 1; number <= 9; number++) {
            if (!picked.contains(number)) {
                picked.add(number);
                int next = outcome();
                picked.remove(picked.size() - 1);
                if (next == outcome) {
                    return number;
                }
            }
        }
        return 0;
    }

    public int undo() {
        if (past.isEmpty()) {
            return -1;
        }
        square = past.removeLast();
        return past.size();
    }

    public int errors() {
        return 0;
    }

    public double meanNumber() {
        return (double) Arrays.stream(square).flatMapToInt(Arrays::stream).asLongStream().sum()
                / (square.length * square.length);
    }

    public float zeroShare() {
        return (float) Arrays.stream(square).flatMapToInt(Arrays::stream).filter(each -> each == 0).count()
                / (square.length * square.length);
    }
}
