import java.io.IOException;
import java.lang.reflect.InvocationTargetException;
import java.lang.reflect.Method;
import java.lang.reflect.Modifier;
import java.nio.file.Files;
import java.nio.file.Path;
import java.util.regex.Matcher;
import java.util.regex.Pattern;

/** README.md: each call that it shows answers what stands behind it, and it leaves out no call of the class. */
public final class ReadmeTest {
    private static final Pattern SHOWN =
            Pattern.compile("workshop\\.(\\w+)\\((.*)\\); +// (throws \\w+|[-\\w]+)(:.*)?");
    private static final Pattern TEST = Pattern.compile("\\| (\\w+Test) \\|.*");

    public static void main(String[] args) throws IOException {
        SquareWorkshop workshop = new SquareWorkshop();
        int calls = 0;
        int tests = 0;
        for (String line : Files.readAllLines(Path.of("README.md"))) {
            Matcher shown = SHOWN.matcher(line);
            if (shown.matches()) {
                calls++;
                Check.due(line, shown.group(3), () -> answer(workshop, shown.group(1), shown.group(2)));
            } else if (line.startsWith("workshop.")) {
                Check.due("a call without an answer", "", () -> line);
            }
            Matcher test = TEST.matcher(line);
            if (test.matches()) {
                tests++;
                Check.due(test.group(1) + " stands there", true,
                        () -> Files.exists(Path.of("src/test/java", test.group(1) + ".java")));
            }
        }
        int shownCalls = calls;
        Check.due("the calls are found", true, () -> shownCalls >= 30);
        int told = tests;
        Check.due("all tests are told", countTests(), () -> told);
        checkNames(Files.readString(Path.of("README.md")));
        Check.finish();
    }

    private static int countTests() throws IOException {
        try (var files = Files.list(Path.of("src/test/java"))) {
            return (int) files.filter(each -> each.toString().endsWith("Test.java")).count();
        }
    }

    private static void checkNames(String readme) {
        for (Method each : SquareWorkshop.class.getDeclaredMethods()) {
            if (Modifier.isPublic(each.getModifiers())) {
                Check.due(each.getName() + " is told", true, () -> readme.contains("`" + each.getName() + "`"));
            }
        }
    }

    private static String answer(SquareWorkshop workshop, String name, String written) {
        String[] words = written.isEmpty() ? new String[0] : written.split(", ");
        for (Method each : SquareWorkshop.class.getMethods()) {
            if (each.getName().equals(name) && each.getParameterCount() == words.length) {
                return answer(workshop, each, words);
            }
        }
        return "no such call";
    }

    private static String answer(SquareWorkshop workshop, Method method, String[] words) {
        Object[] arguments = new Object[words.length];
        try {
            for (int each = 0; each < words.length; each++) {
                boolean isLong = method.getParameterTypes()[each] == long.class;
                arguments[each] = isLong ? (Object) longOf(words[each]) : (Object) (int) longOf(words[each]);
            }
            return String.valueOf(method.invoke(workshop, arguments));
        } catch (InvocationTargetException e) {
            return "throws " + e.getCause().getClass().getSimpleName();
        } catch (ReflectiveOperationException e) {
            return e.toString();
        }
    }

    /** A number as Java writes it, or a constant of the class. */
    private static long longOf(String word) throws ReflectiveOperationException {
        String constant = "SquareWorkshop.";
        if (word.startsWith(constant)) {
            return SquareWorkshop.class.getField(word.substring(constant.length())).getInt(null);
        }
        return Long.decode(word.endsWith("L") ? word.substring(0, word.length() - 1) : word);
    }
}
