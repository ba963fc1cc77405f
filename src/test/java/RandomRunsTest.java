import java.lang.reflect.InvocationTargetException;
import java.lang.reflect.Method;
import java.lang.reflect.Modifier;
import java.util.ArrayList;
import java.util.Arrays;
import java.util.Comparator;
import java.util.List;

/** Runs of calls with arguments of all kinds, each answer and the square behind it checked against the model. */
public final class RandomRunsTest {
    private static final int RUNS = 1500;
    private static final int CALLS = 512;
    private static final String[] TEXTS = {
        "8 1 6;3 5 7;4 9 2", "16 3 2 13;5 10 11 8;0 0 0 0;0 0 0 0", "0 0 0;0 5 0;0 0 0", "1 2;3 4", "-1 0;0 -1", "7",
        "1 1;1 1", "1000000", "-1000000 3;4 999999", "1 2 3;4 5", "1 2;3 1000001", "1 -", "1;2;3", "x", "1 2;;", ";",
        "1 8 10 15;12 13 3 6;7 2 16 9;14 11 5 4", "1 1 1 1 1 1 1 1 1 1 1 1 1", "1;1;1;1;1;1;1;1;1;1;1;1;1"
    };
    private static long seed = 20;

    public static void main(String[] args) {
        List<Method> methods = new ArrayList<>();
        for (Method each : SquareWorkshop.class.getDeclaredMethods()) {
            if (Modifier.isPublic(each.getModifiers())) {
                methods.add(each);
            }
        }
        methods.sort(Comparator.comparing(Method::getName));
        Check.due("the methods", 47, methods::size);
        for (int run = 0; run < RUNS; run++) {
            // Each run has some methods that it calls more often than others, so that it gets far with them.
            List<Method> often = new ArrayList<>(methods);
            for (int each = 0; each < 6; each++) {
                Method chosen = methods.get(below(methods.size()));
                for (int more = 0; more < 12; more++) {
                    often.add(chosen);
                }
            }
            run(run, often);
        }
        Check.finish();
    }

    private static int below(int bound) {
        seed = seed * 6364136223846793005L + 1442695040888963407L;
        return (int) ((seed >>> 33) % bound);
    }

    private static void run(int run, List<Method> methods) {
        SquareWorkshop workshop = new SquareWorkshop();
        Model model = new Model();
        for (int call = 0; call < CALLS; call++) {
            Method method = methods.get(below(methods.size()));
            if (method.getName().equals("type") && below(2) == 0) {
                typeText(workshop, model, TEXTS[below(TEXTS.length)]);
            } else if (method.getName().equals("fill") && below(4) != 0) {
                readText(workshop, model, TEXTS[below(5)]);
            }
            Object[] arguments = arguments(method, workshop.size());
            String name = "run " + run + ", call " + call + ", " + method.getName() + Arrays.toString(arguments);
            Check.due(name, answer(model, method, arguments), () -> answer(workshop, method, arguments));
            if (!squareOf(workshop).equals(squareOf(model))) {
                Check.due(name + ", the square then", squareOf(model), () -> squareOf(workshop));
                return;
            }
        }
    }

    private static void typeText(SquareWorkshop workshop, Model model, String text) {
        if (below(2) == 0) {
            workshop.clearText();
            model.clearText();
        }
        for (int at = 0; at < text.length(); at++) {
            char next = text.charAt(at);
            Check.due("type " + next, Check.answer(() -> model.type(next)), () -> workshop.type(next));
        }
    }

    private static void readText(SquareWorkshop workshop, Model model, String text) {
        workshop.clearText();
        model.clearText();
        typeText(workshop, model, text);
        Check.due("read " + text, Check.answer(model::read), workshop::read);
    }

    private static Object[] arguments(Method method, int size) {
        Class<?>[] types = method.getParameterTypes();
        Object[] arguments = new Object[types.length];
        for (int each = 0; each < types.length; each++) {
            arguments[each] = types[each] == long.class ? (Object) word() : (Object) number(method.getName(), each, size);
        }
        return arguments;
    }

    private static long word() {
        String bytes = "0123456789  ;-0011  ;;x\u0000\u00ff";
        long word = 0;
        for (int each = below(9); each > 0; each--) {
            word = word << 8 | bytes.charAt(below(bytes.length()));
        }
        return word;
    }

    private static int number(String method, int which, int size) {
        int kind = below(40);
        if (kind == 0) {
            int[] extremes = {Integer.MIN_VALUE, Integer.MAX_VALUE, -1, 1000001, -1000001, 1000000, -1000000, 65536};
            return extremes[below(extremes.length)];
        }
        if (method.equals("begin") || method.equals("make") && which == 1) {
            return kind < 4 ? below(16) - 1 : 1 + below(5);
        }
        if (method.equals("set") && which == 2 || method.equals("times")) {
            return kind < 4 ? below(4000000) - 2000000 : kind < 30 ? below(18) : below(40) - 20;
        }
        if (method.equals("hexSet") || method.equals("pick")) {
            return below(22) - 1;
        }
        boolean isCell = method.equals("at") || method.equals("set") || method.equals("exchange") || which == 1;
        return isCell && kind < 36 ? below(size) : below(9) - 1;
    }

    private static Object answer(Object target, Method method, Object[] arguments) {
        try {
            Method called = target instanceof Model ? Model.class.getMethod(method.getName(), method.getParameterTypes())
                    : method;
            return called.invoke(target, arguments);
        } catch (InvocationTargetException e) {
            return "throws " + e.getCause().getClass().getName();
        } catch (NoSuchMethodException | IllegalAccessException e) {
            return "cannot be called: " + e;
        }
    }

    private static String squareOf(SquareWorkshop workshop) {
        return Check.square(workshop);
    }

    private static String squareOf(Model model) {
        StringBuilder all = new StringBuilder();
        for (int row = 0; row < model.size(); row++) {
            for (int column = 0; column < model.size(); column++) {
                all.append(column > 0 ? " " : row > 0 ? ";" : "").append(model.at(row, column));
            }
        }
        return all.toString();
    }
}
