import java.io.IOException;
import java.lang.reflect.Method;
import java.lang.reflect.Modifier;
import java.nio.file.Files;
import java.nio.file.Path;
import java.util.HashSet;
import java.util.List;
import java.util.Set;
import java.util.regex.Matcher;
import java.util.regex.Pattern;

/** README.md's example answers what README.md says, and every call is told there. */
public final class ReadmeTest {
    private static final Pattern MADE = Pattern.compile("PastMonitor x = new PastMonitor\\((-?\\d+)\\);");
    private static final Pattern CALL =
            Pattern.compile("x\\.(\\w+)\\((-?\\d+)?\\); +// (-?\\d+|true|false|NONE|FULL)\\b.*");
    private static final Pattern TOLD = Pattern.compile("\\| `(\\w+)\\(\\w*\\)` \\|.*");

    public static void main(String[] args) throws IOException, ReflectiveOperationException {
        List<String> lines = Files.readAllLines(Path.of("README.md"));
        runExample(lines);
        lookForEveryCall(lines);
        Check.end();
    }

    private static void runExample(List<String> lines) throws ReflectiveOperationException {
        int from = lines.indexOf("```java") + 1;
        Matcher made = MADE.matcher(lines.get(from));
        Check.due("the example begins with a new object", made.matches(), true);
        PastMonitor x = new PastMonitor(Integer.parseInt(made.group(1)));
        for (String line : lines.subList(from + 1, lines.size())) {
            if (line.equals("```")) {
                return;
            }
            Matcher call = CALL.matcher(line);
            boolean readable = call.matches();
            Check.due("can be read: " + line, readable, true);
            if (readable) {
                Check.due(line, answer(x, call.group(1), call.group(2)), number(call.group(3)));
            }
        }
        Check.due("the example ends", false, true);
    }

    private static int answer(PastMonitor x, String name, String argument) throws ReflectiveOperationException {
        Object answer = argument == null
                ? PastMonitor.class.getMethod(name).invoke(x)
                : PastMonitor.class.getMethod(name, int.class).invoke(x, Integer.parseInt(argument));
        return number(String.valueOf(answer));
    }

    private static int number(String word) {
        return switch (word) {
            case "true" -> 1;
            case "false" -> 0;
            case "NONE" -> PastMonitor.NONE;
            case "FULL" -> PastMonitor.FULL;
            default -> Integer.parseInt(word);
        };
    }

    private static void lookForEveryCall(List<String> lines) {
        Set<String> told = new HashSet<>();
        for (String line : lines) {
            Matcher call = TOLD.matcher(line);
            if (call.matches()) {
                told.add(call.group(1));
            }
        }
        for (Method method : PastMonitor.class.getDeclaredMethods()) {
            if (Modifier.isPublic(method.getModifiers())) {
                Check.due("README.md tells " + method.getName(), told.contains(method.getName()), true);
            }
        }
    }
}
