import java.util.Objects;

/** What all tests share: they count the checks that fail, and end with exit code 1 if there was one. */
final class Check {
    private static int done = 0;
    private static int wrong = 0;

    private Check() {
    }

    interface Call {
        Object run();
    }

    /** The answer of a call, or the name of the class of the exception that it throws, behind throws. */
    static Object answer(Call call) {
        try {
            return call.run();
        } catch (RuntimeException e) {
            return "throws " + e.getClass().getName();
        }
    }

    static void due(String what, Object want, Call call) {
        done++;
        Object got = answer(call);
        if (!Objects.equals(want, got)) {
            wrong++;
            System.out.println(what + ": answered " + got + ", due is " + want);
        }
    }

    static void state(String what, Call call) {
        due(what, "throws java.lang.IllegalStateException", call);
    }

    static void argument(String what, Call call) {
        due(what, "throws java.lang.IllegalArgumentException", call);
    }

    static void index(String what, Call call) {
        due(what, "throws java.lang.IndexOutOfBoundsException", call);
    }

    static void element(String what, Call call) {
        due(what, "throws java.util.NoSuchElementException", call);
    }

    static void finish() {
        System.out.println(done + " checks, " + wrong + " of them wrong");
        if (wrong != 0 || done == 0) {
            System.exit(1);
        }
    }

    /** Types a text of any length, eight bytes a call at the most. */
    static SquareWorkshop typed(SquareWorkshop workshop, String text) {
        for (int from = 0; from < text.length(); from += 8) {
            long word = 0;
            for (int at = from; at < Math.min(text.length(), from + 8); at++) {
                word = word << 8 | text.charAt(at);
            }
            workshop.type(word);
        }
        return workshop;
    }

    /** A new workshop with a square, written as a text. */
    static SquareWorkshop with(String text) {
        SquareWorkshop workshop = typed(new SquareWorkshop(), text);
        workshop.read();
        return workshop;
    }

    /** The square of a workshop, written as a text. */
    static String square(SquareWorkshop workshop) {
        StringBuilder all = new StringBuilder();
        for (int row = 0; row < workshop.size(); row++) {
            for (int column = 0; column < workshop.size(); column++) {
                all.append(column > 0 ? " " : row > 0 ? ";" : "").append(workshop.at(row, column));
            }
        }
        return all.toString();
    }

    /** What a call that throws must leave as it is: the square, and how many changes can be undone. */
    static void unchanged(String what, SquareWorkshop workshop, String want, int undoable) {
        due(what + " changes no number", want, () -> square(workshop));
        due(what + " is no change", undoable == 0 ? SquareWorkshop.NONE : undoable - 1, workshop::undo);
    }

    static String page(SquareWorkshop workshop, int length) {
        StringBuilder all = new StringBuilder();
        for (int at = 0; at < length; at++) {
            all.append((char) workshop.pageAt(at));
        }
        return all.toString();
    }
}
