import java.lang.reflect.Constructor;
import java.lang.reflect.Field;
import java.lang.reflect.Method;
import java.lang.reflect.Modifier;
import java.util.HashSet;
import java.util.Set;
import java.util.TreeSet;

/** The public face: each member of the document, with its exceptions, and no other one; promise 1. */
public final class FaceTest {
    private static final String E = "java.lang.IllegalStateException";
    private static final String A = "java.lang.IllegalArgumentException";
    private static final String I = "java.lang.IndexOutOfBoundsException";
    private static final String N = "java.util.NoSuchElementException";
    private static final String[] METHODS = {
        "int type(long) " + E, "int clearText()", "int errorKind()", "int errorPlace()", "int read() " + E,
        "int begin(int) " + A, "int size()", "int at(int,int) " + I, "int set(int,int,int) " + I + " " + E,
        "long sum(int,int) " + A + " " + I, "int writeProduct(int,int) " + A + " " + I, "int pageAt(int) " + I,
        "int firstOff()", "boolean is(int) " + A, "int make(int,int) " + A, "int multiply(int) " + I + " " + N + " " + E,
        "int keep(int) " + I, "int take(int) " + I + " " + N, "boolean isSame(int) " + I + " " + N, "int turn()",
        "int mirror()", "int exchange(int,int) " + I + " " + A, "int turnOver()", "int least()", "int forms()",
        "int add(int) " + I + " " + N + " " + A + " " + E, "int times(int) " + E, "int dimension(int,int) " + A,
        "int fillings() " + E, "int fill(int) " + E + " " + I, "int walk()", "int hexAt(int) " + I,
        "int hexSet(int,int) " + I + " " + A + " " + E, "int hexSum(int) " + I, "int hexFillings() " + E,
        "int hexFill(int) " + E + " " + I, "int cubeAt(int,int,int,int) " + A + " " + I, "int cubeErrors(int) " + A,
        "int pick(int) " + A + " " + E, "int newGame()", "int winner()", "int outcome()", "int bestPick() " + E,
        "int undo()", "int errors()", "double meanNumber()", "float zeroShare()"
    };
    private static final String[] CONSTANTS = {
        "NONE=-1", "ROW=0", "COLUMN=1", "DOWN=2", "UP=3", "NORMAL=0", "HALF=1", "CONSTANT=2", "ALL=3", "LIKE=4",
        "SQUARED=5", "TIMES=6", "UNLIKE=7", "ODD=0", "CROSS=1", "PAIRS=2", "LATIN=3"
    };

    public static void main(String[] args) throws IllegalAccessException {
        Check.due("the class", Modifier.PUBLIC | Modifier.FINAL, SquareWorkshop.class::getModifiers);
        checkMethods();
        checkConstants();
        for (Constructor<?> each : SquareWorkshop.class.getDeclaredConstructors()) {
            Check.due("the constructor", "public SquareWorkshop()", each::toString);
        }
        for (Class<?> each : SquareWorkshop.class.getDeclaredClasses()) {
            int modifiers = each.getModifiers();
            Check.due(each + " is static, and not seen from outside", true, () -> Modifier.isStatic(modifiers)
                    && !Modifier.isPublic(modifiers) && !Modifier.isProtected(modifiers));
        }
        checkNewObject();
        Check.finish();
    }

    private static void checkMethods() {
        Set<String> names = new HashSet<>();
        Set<String> face = new TreeSet<>();
        for (Method each : SquareWorkshop.class.getDeclaredMethods()) {
            if (!Modifier.isPrivate(each.getModifiers())) {
                face.add(describe(each));
                names.add(each.getName());
            }
        }
        Check.due("the methods", new TreeSet<>(Set.of(METHODS)), () -> face);
        for (Method each : SquareWorkshop.class.getDeclaredMethods()) {
            if (Modifier.isPrivate(each.getModifiers())) {
                Check.due(each.getName() + " bears the name of a public method", false,
                        () -> names.contains(each.getName()));
            }
        }
    }

    private static String describe(Method method) {
        StringBuilder all = new StringBuilder(method.getReturnType() + " " + method.getName() + "(");
        for (Class<?> each : method.getParameterTypes()) {
            all.append(all.charAt(all.length() - 1) == '(' ? "" : ",").append(each.getName());
        }
        all.append(")");
        for (Class<?> each : method.getExceptionTypes()) {
            all.append(" ").append(each.getName());
        }
        return all.toString();
    }

    private static void checkConstants() throws IllegalAccessException {
        Set<String> found = new TreeSet<>();
        for (Field each : SquareWorkshop.class.getDeclaredFields()) {
            if (!Modifier.isPrivate(each.getModifiers())) {
                Check.due("the sort of " + each.getName(), "public static final int",
                        () -> Modifier.toString(each.getModifiers()) + " " + each.getType());
                found.add(each.getName() + "=" + each.get(null));
            }
        }
        Check.due("the constants", new TreeSet<>(Set.of(CONSTANTS)), () -> found);
    }

    private static void checkNewObject() {
        SquareWorkshop x = new SquareWorkshop();
        Check.due("promise 1: the square", "0", () -> Check.square(x));
        Check.due("promise 1: nothing can be undone", SquareWorkshop.NONE, x::undo);
        for (int drawer = 0; drawer < 6; drawer++) {
            int each = drawer;
            Check.element("promise 1: the drawer " + each, () -> x.take(each));
        }
        Check.due("promise 1: the text", 0, x::clearText);
        Check.index("promise 1: the page", () -> x.pageAt(0));
        for (int cell = 0; cell < 19; cell++) {
            int each = cell;
            Check.due("promise 1: the hexagon's cell " + each, 0, () -> x.hexAt(each));
        }
        Check.due("promise 1: the game's winner", SquareWorkshop.NONE, x::winner);
        Check.due("promise 1: the game's numbers", 0, x::newGame);
    }
}
