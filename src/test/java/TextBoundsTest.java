/** The bounds of section 3 and of promises 2 to 6: 400 bytes, each byte in each place, the 13th number and row. */
public final class TextBoundsTest {
    private static final String TWELVE = "1 1 1 1 1 1 1 1 1 1 1 1";
    private static final String TWELVE_ROWS = "1;1;1;1;1;1;1;1;1;1;1;1";
    private static final Twin.Way AS_IT_IS = x -> { };

    public static void main(String[] args) {
        checkBytesOfNumbers();
        checkLength();
        checkFullTexts();
        checkClearing();
        checkEachByte();
        checkEnds();
        checkBlanks();
        checkMinus();
        checkRange();
        checkManyDigits();
        checkThirteenthNumber();
        checkThirteenthRow();
        checkRowsOfOtherLengths();
        checkOneErrorAheadOfOthers();
        checkErrorsThatEnd();
        checkReading();
        checkThatNothingChanges();
        Check.finish();
    }

    private static void error(String text, int kind, int place) {
        SquareWorkshop x = Check.typed(new SquareWorkshop(), text);
        String name = text.length() > 60 ? text.substring(0, 60) + ".., " + text.length() + " bytes" : text;
        Check.due("promise 4: the error of \"" + name + "\"", kind, x::errorKind);
        Check.due("promise 5: the place of the error of \"" + name + "\"", place, x::errorPlace);
        if (kind == 0) {
            Check.due("promise 6: it is read, \"" + name + "\"", true, () -> x.read() >= 1);
        } else {
            Check.state("promise 6: it is refused, \"" + name + "\"", x::read);
        }
        Check.due("promise 6: the text stays", text.length(), () -> x.type(0));
    }

    private static void none(String text) {
        error(text, 0, SquareWorkshop.NONE);
    }

    /** Where a byte of the number's 1 to 8 stands, it is one byte of the text; the bytes that are 0 are none. */
    private static void checkBytesOfNumbers() {
        for (int place = 0; place < 8; place++) {
            long word = 0x37L << 8 * place;
            SquareWorkshop x = new SquareWorkshop();
            Check.due("promise 2: one byte, " + place + " behind it are 0", 1, () -> x.type(word));
            Check.due("promise 2: it is read, " + place, 1, x::read);
            Check.due("promise 2: it is the digit 7", 7, () -> x.at(0, 0));
            long high = 0xffL << 8 * place;
            SquareWorkshop y = new SquareWorkshop();
            Check.due("promise 2: the byte 255, " + place + " behind it are 0", 1, () -> y.type(high));
            Check.due("promise 2: 255 cannot stand there", "1 0", () -> y.errorKind() + " " + y.errorPlace());
        }
        SquareWorkshop x = new SquareWorkshop();
        Check.due("promise 2: the number 0 has no byte", 0, () -> x.type(0));
        Check.due("promise 2: eight bytes", 8, () -> x.type(0x2d31303030303030L));
        Check.due("promise 2: the highest one first", -1000000, () -> {
            x.read();
            return x.at(0, 0);
        });
        SquareWorkshop y = new SquareWorkshop();
        Check.due("promise 2: zeros between, in front and behind", 3, () -> y.type(0x0031003200003300L));
        Check.due("promise 2: the bytes stand side by side", 123, () -> {
            y.read();
            return y.at(0, 0);
        });
        Check.due("promise 2: the greatest number", 11, () -> y.type(Long.MAX_VALUE));
        Check.due("promise 2: the least number has one byte, 128", 12, () -> y.type(Long.MIN_VALUE));
        Check.due("promise 2: -1 has eight bytes", 20, () -> y.type(-1));
    }

    private static void checkLength() {
        for (int room = 0; room <= 8; room++) {
            for (int more = 0; more <= 8; more++) {
                SquareWorkshop x = Check.typed(new SquareWorkshop(), " ".repeat(400 - room));
                long word = 0;
                for (int each = 0; each < more; each++) {
                    word = word << 8 | '5';
                }
                long bytes = word;
                String name = "promise 2: " + more + " bytes and room for " + room;
                if (more <= room) {
                    Check.due(name, 400 - room + more, () -> x.type(bytes));
                } else {
                    Check.state(name, () -> x.type(bytes));
                    Check.due(name + ": none is put there", 400 - room, x::clearText);
                }
            }
        }
        SquareWorkshop x = Check.typed(new SquareWorkshop(), " ".repeat(396));
        Check.due("promise 2: four bytes with zeros need room for four", 400, () -> x.type(0x3100310031003100L));
        Check.due("promise 2: 0 is no byte too much", 400, () -> x.type(0));
        Check.state("promise 2: one byte is", () -> x.type(0x0100000000000000L));
        Check.due("promise 3: a full text is emptied", 400, x::clearText);
        Check.due("promise 2: there is room for the first byte again", 1, () -> x.type('1'));
    }

    /** Texts of 400 bytes, whose last byte decides. */
    private static void checkFullTexts() {
        none(" ".repeat(399) + "5");
        none("5" + " ".repeat(399));
        none("0".repeat(400));
        none("0".repeat(393) + "1000000");
        none("-" + "0".repeat(399));
        error("9".repeat(400), 2, 0);
        error("-" + "9".repeat(399), 2, 0);
        error("0".repeat(393) + "1000001", 2, 0);
        error(" ".repeat(400), 1, 400);
        error(" ".repeat(399) + "-", 1, 400);
        error(" ".repeat(399) + ";", 1, 399);
        error(" ".repeat(399) + "x", 1, 399);
        error("5" + " ".repeat(398) + ";", 1, 400);
        error("5" + " ".repeat(398) + "6", 4, 0);
        error("1".repeat(399) + "x", 2, 0);
        error("0".repeat(399) + "x", 1, 399);
        String square = (TWELVE + ";").repeat(11) + TWELVE;
        none(square + " ".repeat(400 - square.length()));
        none(" ".repeat(400 - square.length()) + square);
        error(square + " ".repeat(399 - square.length()) + "1", 3, 399);
        error(square + " ".repeat(399 - square.length()) + ";", 3, 399);
        error(square + " ".repeat(399 - square.length()) + "-", 1, 400);
    }

    private static void checkClearing() {
        SquareWorkshop x = new SquareWorkshop();
        Check.due("promise 3: an empty text has the length 0", 0, x::clearText);
        Check.typed(x, "1 2;3 4");
        x.read();
        Check.due("promise 3: the length before", 7, x::clearText);
        Check.due("promise 4: the emptied text has an error", 1, x::errorKind);
        Check.due("promise 5: at its length", 0, x::errorPlace);
        Check.state("promise 6: it is not read", x::read);
        Check.due("promise 3: the square stays", "1 2;3 4", () -> Check.square(x));
        Check.due("promise 3: emptied twice", 0, x::clearText);
        Check.typed(x, "9");
        Check.due("promise 3: nothing is left of the text before", 1, x::read);
        Check.due("promise 3: but for what has been typed since", "9", () -> Check.square(x));
    }

    /** All bytes from 1 to 255: ahead of a row, behind blanks, behind a minus, behind a digit, behind a ;. */
    private static void checkEachByte() {
        for (int next = 1; next <= 255; next++) {
            String sign = String.valueOf((char) next);
            boolean isDigit = next >= 48 && next <= 57;
            boolean isBlank = next == 32;
            boolean isMinus = next == 45;
            boolean isSemicolon = next == 59;
            String[] ahead = {"", " ", ";", "1", "1 ", "-", "1 -", "1;", "1; "};
            for (String text : ahead) {
                boolean behindMinus = text.endsWith("-");
                boolean rowHasNumber = text.equals("1") || text.equals("1 ");
                boolean behindDigit = text.equals("1");
                int length = text.length();
                if (text.equals(";")) {
                    error(text + sign, 1, 0);
                } else if (isDigit) {
                    // Two numbers in a row, or a row behind a row, are no square yet.
                    boolean isWhole = !text.contains(" ") && !text.contains(";") || text.equals(" ");
                    error(text + sign, isWhole ? 0 : 4, isWhole ? SquareWorkshop.NONE : 0);
                } else if (isBlank && !behindMinus) {
                    error(text + sign, rowHasNumber ? 0 : 1, rowHasNumber ? -1 : length + 1);
                } else if (isMinus && !behindMinus && !behindDigit || isSemicolon && rowHasNumber) {
                    error(text + sign, 1, length + 1);
                } else {
                    error(text + sign, 1, length);
                }
            }
        }
    }

    /** If the text ends where a number must come, the place is its length. */
    private static void checkEnds() {
        error("", 1, 0);
        error(" ", 1, 1);
        error("  ", 1, 2);
        error("-", 1, 1);
        error(" -", 1, 2);
        error("1 -", 1, 3);
        error("1;", 1, 2);
        error("1; ", 1, 3);
        error("1;-", 1, 3);
        error("1 2;3 4;", 1, 8);
        error("1 2;3 4;   ", 1, 11);
        none("1");
        none("1 ");
        none("1    ");
        none("-1");
    }

    private static void checkBlanks() {
        none(" 1");
        none("   1   ");
        none("1 2;3 4");
        none("  1   2  ;  3     4  ");
        none("1 2 ;3 4");
        none("1 2; 3 4");
        error("12;3 4", 4, 0);
        error("1 2;34", 4, 4);
        error(" ;1", 1, 1);
        error("1; ;1", 1, 3);
        error("1;;1", 1, 2);
        error("1\u00a02", 1, 1);
        error("1\n2", 1, 1);
        error("1,2", 1, 1);
        error("1.5", 1, 1);
    }

    /** Behind a minus a digit must come, wherever it stands; and a minus stands right in front of its number. */
    private static void checkMinus() {
        none("-5");
        none("-0");
        none("-1 -2;-3 -4");
        none(" -1000000 ");
        error("- 5", 1, 1);
        error("--5", 1, 1);
        error("5-", 1, 1);
        error("5-5", 1, 1);
        error("-5-", 1, 2);
        error("-;", 1, 1);
        error("1 2;- 3", 1, 5);
        error("1 2;3 -", 1, 7);
        error("-x", 1, 1);
        error("+5", 1, 0);
        error("1 -;1 1", 1, 3);
        error(TWELVE + " -;", 1, 25);
        error(TWELVE + " - ", 1, 25);
        error(TWELVE + " --", 1, 25);
        error(TWELVE + " -", 1, 25);
        error(TWELVE_ROWS + " -", 1, 25);
        error((TWELVE + ";").repeat(12) + "-x", 3, 287);
    }

    private static void number(String text, int number) {
        none(text);
        Check.due("promise 6: the number " + text, number, () -> Check.with(text).at(0, 0));
    }

    private static void checkRange() {
        number("1000000", 1000000);
        number("-1000000", -1000000);
        number("999999", 999999);
        number("-999999", -999999);
        number("0", 0);
        number("-0", 0);
        number("-1", -1);
        number("0000000000000000000001000000", 1000000);
        number("-0000000000000000000001000000", -1000000);
        error("1000001", 2, 0);
        error("-1000001", 2, 0);
        error("  -1000001", 2, 2);
        error("1000010", 2, 0);
        error("1000000 1000001;0 0", 2, 8);
        error("-1000000 -1000001;0 0", 2, 9);
        error("0 0;0 1000001", 2, 6);
        error("0 0;0 -1000001", 2, 6);
        error("1000001 ", 2, 0);
        error("1000001;", 2, 0);
        error("00000001000001", 2, 0);
    }

    /** Numbers that would wrap round to small ones, if an int, or a long, held them. */
    private static void checkManyDigits() {
        error("10000000", 2, 0);
        error("2147483648", 2, 0);
        error("4294967296", 2, 0);
        error("4294967297", 2, 0);
        error("-4294967296", 2, 0);
        error("9223372036854775808", 2, 0);
        error("18446744073709551616", 2, 0);
        error("18446744073709551617", 2, 0);
        error("-18446744073709551615", 2, 0);
        error("1" + "0".repeat(64), 2, 0);
        error("1" + "0".repeat(399), 2, 0);
    }

    private static void checkThirteenthNumber() {
        error(TWELVE, 4, 0);
        error(TWELVE + " ", 4, 0);
        error(TWELVE + ";", 1, 24);
        error(TWELVE + " 1", 3, 24);
        error(TWELVE + " 123456", 3, 24);
        error(TWELVE + " 1 ", 3, 24);
        error(TWELVE + " 1;", 3, 24);
        error(TWELVE + " 1;x", 3, 24);
        error(TWELVE + " 1x", 3, 24);
        error(TWELVE + " 1-", 3, 24);
        error(TWELVE + " -1", 3, 24);
        error(TWELVE + "   -17", 3, 26);
        error(TWELVE + " 1 1000001", 3, 24);
        error(TWELVE + " 1 x", 3, 24);
        error(TWELVE + " 1000000", 3, 24);
        error(TWELVE + " -1000000", 3, 24);
        error(" " + TWELVE + " 1", 3, 25);
        error(TWELVE + ";" + TWELVE + " 1", 3, 48);
        error((TWELVE + ";").repeat(11) + TWELVE + " 1", 3, 288);
        error("1;" + TWELVE + " 1", 3, 26);
        // The smallest kind of one place: a byte that cannot stand there, and a number out of range, are told first.
        error(TWELVE + " x", 1, 24);
        error(TWELVE + " +1", 1, 24);
        error(TWELVE + " 1000001", 2, 24);
        error(TWELVE + " -1000001", 2, 24);
        error(TWELVE + " 1000001x", 2, 24);
    }

    private static void checkThirteenthRow() {
        error(TWELVE_ROWS, 4, 0);
        error(TWELVE_ROWS + ";", 3, 23);
        error(TWELVE_ROWS + " ;", 3, 24);
        error(TWELVE_ROWS + ";1", 3, 23);
        error(TWELVE_ROWS + ";x", 3, 23);
        error(TWELVE_ROWS + ";;", 3, 23);
        error(TWELVE_ROWS + ";1000001", 3, 23);
        error(TWELVE_ROWS + " x", 1, 24);
        error(TWELVE_ROWS.substring(0, 22) + ";", 1, 22);
        error(TWELVE_ROWS.substring(0, 22) + ";;", 1, 22);
        error(TWELVE_ROWS.substring(0, 22) + "-;", 1, 23);
        error(TWELVE_ROWS.substring(0, 22) + "1000001;", 2, 22);
        none((TWELVE + ";").repeat(11) + TWELVE);
        error((TWELVE + ";").repeat(11), 1, 264);
        error((TWELVE + ";").repeat(10) + TWELVE, 4, 0);
        error((TWELVE + ";").repeat(12), 3, 287);
        error((TWELVE + ";").repeat(12) + TWELVE, 3, 287);
    }

    private static void checkRowsOfOtherLengths() {
        error("1 2", 4, 0);
        error("  1 2", 4, 2);
        error("-1 2", 4, 0);
        error("1;2", 4, 0);
        error("1 2;3", 4, 4);
        error("1 2; -3", 4, 5);
        error("1;2 3", 4, 0);
        error("1 2;3 4 5", 4, 4);
        error("1 2 3;4 5 6", 4, 0);
        error("1 2;3 4;5 6", 4, 0);
        error("1 2 3;4 5 6;7 8", 4, 12);
        error("1 2 3;4 5 6;   7 8 9 10", 4, 15);
        error("1 2 3;4 5;7 8", 4, 6);
        error("1 2 3;4 5 6 7;8 9", 4, 6);
        String eleven = TWELVE.substring(2);
        error((TWELVE + ";").repeat(11) + eleven, 4, 264);
        error((TWELVE + ";").repeat(11) + "  " + eleven, 4, 266);
        error(eleven + (";" + TWELVE).repeat(11), 4, 0);
        none((eleven + ";").repeat(10) + eleven);
    }

    private static void checkOneErrorAheadOfOthers() {
        error("x;1000001", 1, 0);
        error("1000001;x", 2, 0);
        error("1 2 3;x", 1, 6);
        error("1 2 3;1000001", 2, 6);
        error("1;1000001 x", 2, 2);
        error("1;x 1000001", 1, 2);
        error("1;" + TWELVE + " 1;x;1000001", 3, 26);
        error("1000001 " + TWELVE, 2, 0);
        error(TWELVE + " 1" + ";1".repeat(12), 3, 24);
        error(TWELVE_ROWS + ";" + TWELVE + " 1", 3, 23);
    }

    /** What is typed behind a text, or in place of it, decides anew whether it has an error, and where. */
    private static void checkErrorsThatEnd() {
        String[] begun = {"", " ", "1 2;3", "1 2;3 ", "1 2;", "1 2", "-", "1 2;3 -"};
        String[] ended = {"7", "7", " 4", "4", "3 4", ";3 4", "7", "4"};
        for (int each = 0; each < begun.length; each++) {
            String name = begun[each] + ended[each];
            SquareWorkshop x = Check.typed(new SquareWorkshop(), begun[each]);
            Check.due("promise 4: an error of what " + name + " begins with", true, () -> x.errorKind() > 0);
            Check.due("promise 5: an error of what " + name + " begins with", true, () -> x.errorPlace() >= 0);
            Check.typed(x, ended[each]);
            Check.due("promise 5: no error any more, " + name, SquareWorkshop.NONE, x::errorPlace);
            Check.due("promise 4: no error any more, " + name, 0, x::errorKind);
            Check.typed(x, " x");
            Check.due("promise 5: an error again, " + name, name.length() + 1, x::errorPlace);
            Check.due("promise 4: an error again, " + name, 1, x::errorKind);
            x.clearText();
            Check.due("promise 5: the error of an empty text, " + name, 0, x::errorPlace);
            Check.typed(x, "1");
            Check.due("promise 5: no error of the next text, " + name, SquareWorkshop.NONE, x::errorPlace);
            Check.due("promise 4: no error of the next text, " + name, 0, x::errorKind);
        }
    }

    private static void checkReading() {
        for (int size = 1; size <= 12; size++) {
            int n = size;
            StringBuilder text = new StringBuilder();
            for (int cell = 0; cell < n * n; cell++) {
                text.append(cell == 0 ? "" : cell % n == 0 ? ";" : " ").append(cell % 2 == 0 ? cell % 10 : cell % 7);
            }
            String square = text.toString();
            SquareWorkshop x = Check.typed(new SquareWorkshop(), square);
            Check.due("promise 6: the size " + n, n, x::read);
            Check.due("promise 6: the numbers of the size " + n, square, () -> Check.square(x));
            Check.due("promise 6: the text stays", square.length(), x::clearText);
            Check.due("promise 6: it is a change", 0, x::undo);
            Check.due("promise 6: from another size", "0", () -> Check.square(x));
        }
    }

    private static void checkThatNothingChanges() {
        Twin.same("promise 4: errorKind", 0, AS_IT_IS, x -> x.errorKind());
        Twin.same("promise 5: errorPlace", -1, AS_IT_IS, x -> x.errorPlace());
        Twin.same("promise 2: type of 0", 11, AS_IT_IS, x -> x.type(0));
        Twin.same("promise 4: of an error", 1, x -> x.type('x'), x -> x.errorKind());
        Twin.same("promise 5: of an error", 11, x -> x.type('x'), x -> x.errorPlace());
        Twin.same("promise 3: clearText of an empty text", 0, x -> x.clearText(), x -> x.clearText());
    }
}
