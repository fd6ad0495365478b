import java.lang.reflect.Method;
import java.nio.file.Files;
import java.nio.file.Path;
import java.util.Set;
import java.util.TreeSet;
import java.util.regex.Matcher;
import java.util.regex.Pattern;

/**
 * The example of README.md, read from there and called line by line: each line ends with
 * the answer that the class must give. And every public method is told in README.md.
 */
public final class ReadmeTest {
    private static final Pattern MADE = Pattern.compile("new PeriodicResource\\((\\d+)\\)");
    private static final Pattern CALL = Pattern.compile("x\\.(\\w+)\\(([^)]*)\\).*-> (\\S+)");

    public static void main(String[] args) throws Exception {
        String readme = Files.readString(Path.of("README.md"));
        dueExample(between(readme, "```java\n", "```"));
        dueEveryMethodTold(between(readme, "## Use", "## Tests"));
        Check.finish();
    }

    private static String between(String text, String from, String to) {
        int start = text.indexOf(from) + from.length();
        return text.substring(start, text.indexOf(to, start));
    }

    private static void dueExample(String example) throws Exception {
        Matcher made = MADE.matcher(example);
        Check.due("README.md makes an object", made.find(), true);
        PeriodicResource x = new PeriodicResource(Integer.parseInt(made.group(1)));
        int calls = 0;
        for (String line : example.split("\n")) {
            Matcher call = CALL.matcher(line);
            if (call.find()) {
                Object got = answer(x, call.group(1), call.group(2));
                Check.due(line.strip() + ": this (it answered " + got + ")",
                        got.toString().equals(call.group(3)), true);
                calls++;
            } else {
                Check.due("a call has its answer in: " + line, line.contains("x."), false);
            }
        }
        Check.due("README.md shows calls", calls > 0, true);
    }

    private static Object answer(PeriodicResource x, String name, String arguments) throws Exception {
        String[] words = arguments.isBlank() ? new String[0] : arguments.split(",");
        Class<?>[] types = new Class<?>[words.length];
        Object[] values = new Object[words.length];
        for (int i = 0; i < words.length; i++) {
            types[i] = int.class;
            values[i] = value(words[i].strip());
        }
        return PeriodicResource.class.getMethod(name, types).invoke(x, values);
    }

    private static int value(String word) throws Exception {
        String constant = "PeriodicResource.";
        return word.startsWith(constant)
                ? PeriodicResource.class.getField(word.substring(constant.length())).getInt(null)
                : Integer.parseInt(word);
    }

    private static void dueEveryMethodTold(String use) {
        Set<String> missing = new TreeSet<>();
        for (Method m : PeriodicResource.class.getMethods()) {
            if (m.getDeclaringClass() == PeriodicResource.class && !use.contains("| `" + m.getName() + "(")) {
                missing.add(m.getName());
            }
        }
        Check.due("README.md tells every call, but for " + missing, missing.isEmpty(), true);
    }
}
