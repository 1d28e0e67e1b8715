import java.lang.reflect.Field;
import java.lang.reflect.Method;
import java.lang.reflect.Modifier;
import java.nio.file.Files;
import java.nio.file.Path;
import java.util.regex.Matcher;
import java.util.regex.Pattern;

/** README.md names every call and every constant, and its example answers what it says. */
public final class ReadmeTest {
    private static final Pattern EXAMPLE =
        Pattern.compile("(?m)^desk\\.(\\w+)\\(([^)]*)\\);\\s+// (true|false|-?\\d+)\\b.*$");
    private static String text;

    private static boolean says(String pattern) {
        return Pattern.compile(pattern).matcher(text).find();
    }

    private static void calls() {
        for (Method m : FactorDesk.class.getDeclaredMethods()) {
            if (Modifier.isPublic(m.getModifiers())) {
                String more = "(?:, \\w+){" + (m.getParameterCount() - 1) + "}";
                String row = "(?m)^\\| `" + m.getName() + "\\(\\w+" + more + "\\)` \\| \\S.*\\|$";
                Check.due("README.md has a row for the call " + m.getName(), says(row), true);
            }
        }
        Check.due("README.md tells how an object is made", says("`new FactorDesk\\(\\)`"), true);
        Check.due("README.md tells how long it is used", says("at most 512 calls"), true);
        Check.due("README.md tells how tests are run", says("(?m)^    \\.ci/run$"), true);
    }

    private static void constants() throws IllegalAccessException {
        for (Field f : FactorDesk.class.getDeclaredFields()) {
            if (Modifier.isPublic(f.getModifiers())) {
                int value = f.getInt(null);
                // Only the codes are met as numbers; an op is always written by its name.
                String row = "(?m)^\\| `" + f.getName() + "` \\| " + value + " \\| \\S.*\\|$";
                String wanted = value < 0 ? row : "`" + f.getName() + "`";
                Check.due("README.md tells the constant " + f.getName(), says(wanted), true);
            }
        }
    }

    private static int argument(String word) throws ReflectiveOperationException {
        String prefix = "FactorDesk.";
        if (word.startsWith(prefix)) {
            return FactorDesk.class.getField(word.substring(prefix.length())).getInt(null);
        }
        return Integer.parseInt(word);
    }

    private static String answer(FactorDesk desk, String name, String[] words) throws ReflectiveOperationException {
        Object[] arguments = new Object[words.length];
        for (int i = 0; i < words.length; i++) {
            arguments[i] = argument(words[i]);
        }
        for (Method m : FactorDesk.class.getDeclaredMethods()) {
            if (m.getName().equals(name) && m.getParameterCount() == words.length) {
                return m.invoke(desk, arguments).toString();
            }
        }
        return "no such call";
    }

    private static void example() throws ReflectiveOperationException {
        FactorDesk desk = new FactorDesk();
        int lines = 0;
        for (Matcher m = EXAMPLE.matcher(text); m.find(); lines++) {
            String got = answer(desk, m.group(1), m.group(2).split(", "));
            Check.due(m.group() + " answers " + got, got.equals(m.group(3)), true);
        }
        long calls = text.lines().filter(line -> line.startsWith("desk.")).count();
        Check.due("lines of the example that tell their answer", lines, calls);
        Check.due("README.md has an example", calls > 0, true);
    }

    public static void main(String[] args) throws Exception {
        text = Files.readString(Path.of("README.md"));
        calls();
        constants();
        example();
        Check.finish();
    }
}
