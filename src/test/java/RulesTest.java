import java.io.IOException;
import java.lang.reflect.Field;
import java.lang.reflect.Method;
import java.lang.reflect.Modifier;
import java.nio.file.Files;
import java.nio.file.Path;
import java.util.HashSet;
import java.util.List;
import java.util.Set;
import java.util.regex.Matcher;
import java.util.regex.Pattern;

/** What of ../shared/LANGUAGE.md can be seen in the text of the class, or by reflection. */
public final class RulesTest {
    private static final Path SOURCE = Path.of("src/main/java/SquareWorkshop.java");
    private static final List<String> LIBRARY = List.of("System.arraycopy", "Math.max", "Math.min", "Math.abs",
            "Math.floorMod", "Integer.bitCount");

    public static void main(String[] args) throws IOException {
        List<String> lines = Files.readAllLines(SOURCE);
        StringBuilder all = new StringBuilder();
        for (String line : lines) {
            String code = line.replaceAll("\"[^\"]*\"", "\"\"").replaceAll("'[^']*'", "'c'").replaceAll("//.*", "");
            all.append(code.trim().startsWith("*") || code.trim().startsWith("/*") ? "" : code).append("\n");
            checkNew(code);
        }
        String code = all.toString();
        checkWords(code);
        checkLengths(lines);
        Set<String> names = new HashSet<>();
        for (Method each : SquareWorkshop.class.getDeclaredMethods()) {
            if (Modifier.isPublic(each.getModifiers())) {
                names.add(each.getName());
            }
        }
        checkClass(SquareWorkshop.class, names);
        Class<?>[] inside = SquareWorkshop.class.getDeclaredClasses();
        Check.due("rule 11: some twelve classes", true, () -> inside.length <= 12);
        for (Class<?> each : inside) {
            checkClass(each, names);
        }
        Check.finish();
    }

    /** No call makes an object, but for an exception: so no run can make too many. */
    private static void checkNew(String code) {
        if (code.matches(".*\\bnew\\b.*")) {
            Check.due("rule 12: made in a constructor, or thrown: " + code.trim(), true,
                    () -> code.contains("throw new ") || code.matches(" {4,8}(private )?(static )?final .* = new .*;"));
        }
    }

    private static void checkWords(String code) {
        String[] words = {"->", "::", "\\btry\\b", "\\bcatch\\b", "\\bfinally\\b", "\\bsynchronized\\b", "\\bassert\\b",
            "\\bstatic \\{", "\\bvar\\b", "\\bObject\\b", "\\binstanceof\\b", "\\bequals\\b", "\\btoString\\b",
            "\"\" \\+", "\\+ \"\"", "\\bpackage\\b", "\\bprotected\\b", "\\bthis\\b\\)", "Exact\\b", "while \\(true"};
        for (String word : words) {
            Check.due("the class has no " + word, false, () -> Pattern.compile(word).matcher(code).find());
        }
        Matcher imports = Pattern.compile("import ([^;]*);").matcher(code);
        while (imports.find()) {
            Check.due("rule 4: imported", "java.util.NoSuchElementException", () -> imports.group(1));
        }
        Matcher library = Pattern.compile("\\b(System|Math|Integer|Long|Arrays|Character|String)\\.\\w+").matcher(code);
        while (library.find()) {
            Check.due("rule 4: " + library.group(), true, () -> LIBRARY.contains(library.group()));
        }
    }

    /** A method begins with a line that is indented by 4 or 8 and has a ( and ends with a {. */
    private static void checkLengths(List<String> lines) {
        int start = -1;
        int longest = 0;
        for (int at = 0; at < lines.size(); at++) {
            String line = lines.get(at);
            if (line.matches("( {4}| {8})[a-z].*\\(.*") && !line.contains(";") && !line.contains(" = ")) {
                start = at;
            } else if (line.matches("( {4}| {8})\\}") && start >= 0) {
                longest = Math.max(longest, at - start + 1);
                start = -1;
            }
        }
        int most = longest;
        Check.due("rule 11: the longest method has " + most + " lines", true, () -> most > 5 && most <= 60);
    }

    private static void checkClass(Class<?> type, Set<String> publicNames) {
        int fields = 0;
        for (Field each : type.getDeclaredFields()) {
            boolean isStatic = Modifier.isStatic(each.getModifiers());
            Check.due("rule 5: " + each, true, () -> !isStatic || Modifier.isFinal(each.getModifiers()));
            fields += isStatic ? 0 : 1;
        }
        int count = fields;
        Check.due("rule 11: fields of " + type, true, () -> count <= 20);
        for (Method each : type.getDeclaredMethods()) {
            Check.due("rule 11: parameters of " + each, true, () -> each.getParameterCount() <= 7);
            Check.due("rule 1: the name of " + each, true,
                    () -> Modifier.isPublic(each.getModifiers()) || !publicNames.contains(each.getName()));
        }
    }
}
