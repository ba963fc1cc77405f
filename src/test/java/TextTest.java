/** Promises 2 to 6: the text, its errors, and reading it. */
public final class TextTest {
    private static final String ONES_12 = "1 1 1 1 1 1 1 1 1 1 1 1";

    public static void main(String[] args) {
        checkType();
        checkClear();
        checkWrongBytes();
        checkNumbersOutOfRange();
        checkTooMany();
        checkNotSquare();
        checkRead();
        Check.finish();
    }

    private static void checkType() {
        SquareWorkshop x = new SquareWorkshop();
        Check.due("promise 2: 0 has no bytes", 0, () -> x.type(0));
        Check.due("promise 2: the highest byte first", 3, () -> x.type(0x31203BL));
        Check.due("promise 2: and they stand so", "1/3", () -> x.errorKind() + "/" + x.errorPlace());
        Check.due("promise 2: bytes that are 0 inside are left out", 5, () -> x.type(0x3300000000000034L));
        Check.due("promise 2: read so", "4/0", () -> x.errorKind() + "/" + x.errorPlace());
        Check.due("promise 2: a number below 0 has eight bytes", 13, () -> x.type(-1L));
        Check.due("promise 2: a byte of 255", "1/5", () -> x.errorKind() + "/" + x.errorPlace());
        SquareWorkshop y = new SquareWorkshop();
        for (int each = 1; each <= 49; each++) {
            y.type(0x2020202020202020L);
        }
        Check.due("promise 2: 399 bytes", 399, () -> y.type(0x20202020202020L));
        Check.state("promise 2: 401 bytes", () -> y.type(0x3131L));
        Check.due("promise 2: a call that throws adds nothing", 399, () -> y.type(0));
        Check.due("promise 2: 400 bytes", 400, () -> y.type(0x31));
        Check.state("promise 2: one more", () -> y.type(0x31));
        Check.due("promise 2: nothing more", 400, () -> y.type(0));
        Check.due("promise 2: the last byte stands", "1", () -> {
            y.read();
            return Check.square(y);
        });
        SquareWorkshop z = Check.typed(new SquareWorkshop(), " ".repeat(395));
        Check.due("promise 2: only bytes that are not 0 need a place", 400, () -> z.type(0x3100320033343500L));
    }

    private static void checkClear() {
        SquareWorkshop x = new SquareWorkshop();
        Check.due("promise 3: an empty text", 0, x::clearText);
        Check.typed(x, "12 3;4");
        Check.due("promise 3: the length before", 6, x::clearText);
        Check.due("promise 3: empty then", 0, x::clearText);
        Check.typed(x, "7");
        Check.due("promise 3: typed anew", 1, x::read);
        Check.due("promise 3: the new text alone", "7", () -> Check.square(x));
    }

    private static void error(String text, int kind, int place) {
        SquareWorkshop x = Check.typed(new SquareWorkshop(), text);
        Check.due("promises 4 and 5: the error of \"" + text + "\"", kind + "/" + place,
                () -> x.errorKind() + "/" + x.errorPlace());
        if (kind != 0) {
            Check.state("promise 6: read of \"" + text + "\"", x::read);
            Check.unchanged("promise 6: read of \"" + text + "\"", x, "0", 0);
            Check.due("promise 6: the text stays", text.length(), x::clearText);
        }
    }

    private static void checkWrongBytes() {
        error("", 1, 0);
        error("   ", 1, 3);
        error("5", 0, -1);
        error("  5  ", 0, -1);
        error("-", 1, 1);
        error("- 1", 1, 1);
        error("--1", 1, 1);
        error("1-1", 1, 1);
        error("1 -", 1, 3);
        error("1 -;", 1, 3);
        error("+1", 1, 0);
        error("1 x", 1, 2);
        error("1x", 1, 1);
        error("1\t2", 1, 1);
        error(";1", 1, 0);
        error(" ;1", 1, 1);
        error("1 2;;3 4", 1, 4);
        error("1 2;", 1, 4);
        error("1 2; ", 1, 5);
        error("1 2;3 4;", 1, 8);
        error("1 2;3 4 ;x", 1, 9);
        error("1 \u00ff", 1, 2);
        error("1 /", 1, 2);
        error("1 :", 1, 2);
    }

    private static void checkNumbersOutOfRange() {
        error("1000000", 0, -1);
        error("-1000000", 0, -1);
        error("0000000001000000", 0, -1);
        error("-0", 0, -1);
        error("1000001", 2, 0);
        error(" -1000001", 2, 1);
        error("1 1000001 2", 2, 2);
        error("99999999999999999999999999", 2, 0);
        error("4294967297", 2, 0);
        error("10000000", 2, 0);
        error("-10000000", 2, 0);
        error("1000001x", 2, 0);
        error("x1000001", 1, 0);
        error("1 2;-9999999;x", 2, 4);
    }

    private static void checkTooMany() {
        error(ONES_12, 4, 0);
        error(ONES_12 + " ", 4, 0);
        error(ONES_12 + " 1", 3, 24);
        error(ONES_12 + "  -17 ;x", 3, 25);
        error(ONES_12 + " 1;;", 3, 24);
        error(ONES_12 + " -", 1, 25);
        error(ONES_12 + " -x", 1, 25);
        error(ONES_12 + " x", 1, 24);
        error(ONES_12 + " 1000001", 2, 24);
        error(ONES_12 + " 1x", 3, 24);
        error("1;1;1;1;1;1;1;1;1;1;1;1", 4, 0);
        error("1;1;1;1;1;1;1;1;1;1;1;1;", 3, 23);
        error("1;1;1;1;1;1;1;1;1;1;1;1 ;1", 3, 24);
        error("1;1;1;1;1;1;1;1;1;1;1;;1", 1, 22);
        error("1;1;1;1;1;1;1;1;1;1;1;1x;", 1, 23);
        error((ONES_12 + ";").repeat(11) + ONES_12, 0, -1);
        error((ONES_12 + ";").repeat(11) + ONES_12 + ";", 3, 287);
    }

    private static void checkNotSquare() {
        error("1 2", 4, 0);
        error("1;2", 4, 0);
        error("1 2; 3", 4, 5);
        error("1 2;  -3", 4, 6);
        error("1 2;3 4 5", 4, 4);
        error("1 2 3;4 5 6;7 8", 4, 12);
        error("  1 2 3;4 5;7 8", 4, 8);
        error("  1 2;4 5 6;7 8 9", 4, 2);
        error("1 2;3 4", 0, -1);
    }

    private static void checkRead() {
        SquareWorkshop x = Check.typed(new SquareWorkshop(), " 1 -2  3;4 5 6 ; -7 0008 -0");
        Check.due("promise 6: the size", 3, x::read);
        Check.due("promise 6: the numbers", "1 -2 3;4 5 6;-7 8 0", () -> Check.square(x));
        Check.due("promise 6: a change", 0, x::undo);
        Check.due("promise 6: undone", "0", () -> Check.square(x));
        Check.due("promise 6: the text stays", 27, () -> x.type(0));
        Check.typed(x, "1");
        Check.due("promise 6: and is read on", 3, x::read);
        Check.due("promise 6: the longer number", "1 -2 3;4 5 6;-7 8 -1", () -> Check.square(x));
        SquareWorkshop y = Check.typed(new SquareWorkshop(), (ONES_12 + ";").repeat(11) + ONES_12);
        Check.due("promise 6: the size 12", 12, y::read);
        SquareWorkshop z = Check.with("-1000000 1000000;0 5");
        Check.due("promise 6: the greatest numbers", "-1000000 1000000;0 5", () -> Check.square(z));
        Check.due("promise 6: read anew", 2, z::read);
        Check.due("promise 6: two changes", 1, z::undo);
    }
}
