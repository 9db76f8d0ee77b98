import java.io.IOException;
import java.lang.reflect.Method;
import java.lang.reflect.Modifier;
import java.nio.file.Files;
import java.nio.file.Path;
import java.util.List;
import java.util.regex.Matcher;
import java.util.regex.Pattern;
import java.util.stream.Stream;

/** README.md names every call and every test, and its examples answer as it says. */
public final class ReadmeTest {
    private static final Checks CHECKS = new Checks();
    private static final Pattern CALL = Pattern.compile("sums\\.(\\w+)\\((.*)\\);\\s*// (-?\\d+|[A-Z]+): .+");
    private static final Pattern TOLD = Pattern.compile("tell\\(sums, \"(.*)\"\\);\\s*// (-?\\d+|[A-Z]+): .+");

    public static void main(String[] args) throws Exception {
        List<String> lines = Files.readAllLines(Path.of("README.md"));
        String page = String.join("\n", lines);
        namesEveryCall(page);
        namesEveryTest(page);
        examplesAnswerAsSaid(lines);
        CHECKS.end("ReadmeTest");
    }

    private static void namesEveryCall(String page) {
        for (Method method : WornSums.class.getDeclaredMethods()) {
            if (Modifier.isPublic(method.getModifiers())) {
                CHECKS.holds("README.md tells what " + method.getName() + " does",
                        Pattern.compile("(?m)^\\|.*`" + method.getName() + "\\([^)]*\\)`.*\\|.*\\|$").matcher(page).find());
            }
        }
    }

    private static void namesEveryTest(String page) throws IOException {
        try (Stream<Path> files = Files.list(Path.of("src/test/java"))) {
            for (Path file : (Iterable<Path>) files::iterator) {
                String name = file.getFileName().toString().replace(".java", "");
                CHECKS.holds("README.md names " + name, !name.endsWith("Test") || page.contains("\n| " + name + " |"));
            }
        }
        Matcher named = Pattern.compile("(?m)^\\| (\\w+Test) \\|").matcher(page);
        while (named.find()) {
            CHECKS.holds(named.group(1) + " is there", Files.exists(Path.of("src/test/java/" + named.group(1) + ".java")));
        }
    }

    private static void examplesAnswerAsSaid(List<String> lines) throws ReflectiveOperationException {
        WornSums sums = new WornSums();
        int examples = 0;
        for (String line : lines) {
            Matcher told = TOLD.matcher(line);
            Matcher call = CALL.matcher(line);
            if (told.matches()) {
                examples++;
                CHECKS.due(line, Checks.tell(sums, told.group(1)), number(told.group(2)));
            } else if (call.matches()) {
                examples++;
                CHECKS.due(line, answer(sums, call.group(1), call.group(2)), number(call.group(3)));
            } else {
                CHECKS.holds("an example that is read: " + line, !line.contains("(sums, \"") && !line.contains(";  "));
            }
        }
        CHECKS.holds("there are examples", examples > 10);
    }

    private static int answer(WornSums sums, String name, String written) throws ReflectiveOperationException {
        String[] parts = written.isEmpty() ? new String[0] : written.split(", ");
        Class<?>[] types = new Class<?>[parts.length];
        Object[] arguments = new Object[parts.length];
        for (int i = 0; i < parts.length; i++) {
            types[i] = int.class;
            arguments[i] = parts[i].startsWith("'") ? parts[i].charAt(1) : number(parts[i]);
        }
        return (Integer) WornSums.class.getMethod(name, types).invoke(sums, arguments);
    }

    /** A number, or a constant of the program by its name. */
    private static int number(String written) throws ReflectiveOperationException {
        boolean isName = Character.isLetter(written.charAt(0));
        return isName ? WornSums.class.getField(written).getInt(null) : Integer.parseInt(written);
    }
}
