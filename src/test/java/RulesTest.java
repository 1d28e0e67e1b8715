import java.nio.file.Files;
import java.nio.file.Path;
import java.util.LinkedHashMap;
import java.util.Map;
import java.util.regex.Matcher;
import java.util.regex.Pattern;

/** Rules of LANGUAGE.md that can be read off the text of the class, given its usual layout. */
public final class RulesTest {
    private static final String FORBIDDEN = "import|package|float|double|String|Math|Integer|Long|System|"
        + "Arrays|Object|null|throw|throws|try|catch|finally|synchronized|assert|instanceof|protected|"
        + "enum|record|interface|Random|Thread|this|super|var";
    private static final Pattern METHOD =
        Pattern.compile("(?m)^    (?:public|private) (?:static )?(?:\\w+(?:\\[\\])? )?(\\w+)\\([^)]*\\) \\{$");
    private static final Pattern CALL = Pattern.compile("\\b(\\w+)\\(");

    private static String text;
    private static final Map<String, String> BODIES = new LinkedHashMap<>();

    private static int count(String pattern) {
        int n = 0;
        for (Matcher m = Pattern.compile(pattern).matcher(text); m.find();) {
            n++;
        }
        return n;
    }

    private static void words() {
        Check.due("forbidden words", count("\\b(?:" + FORBIDDEN + ")\\b"), 0);
        Check.due("lambdas and method references", count("->|::"), 0);
        Check.due("arrays of arrays", count("\\[\\]\\s*\\[\\]"), 0);
        Check.due("classes", count("\\bclass\\b"), 1);
        int fields = count("(?m)^    private (?:final )?\\w+(?:\\[\\])? \\w+(?: = .*)?;$");
        int made = count("(?m)^    private final \\w+\\[\\] \\w+ = new \\w+\\[[A-Z_0-9]+\\];$");
        Check.due("new outside a field's initialiser", count("\\bnew\\b") - made, 0);
        Check.due(fields + " fields are at most 40", fields <= 40, true);
        Check.due("static fields that are no int or long constants",
            count("(?m)^    \\w+ static (?!final (?:int|long) [A-Z_]+ = -?\\d+;)[^(]*;$"), 0);
    }

    private static void methods() {
        for (Matcher m = METHOD.matcher(text); m.find();) {
            int end = text.indexOf("\n    }\n", m.end());
            BODIES.put(m.group(1), text.substring(m.end(), end));
        }
        Check.due("methods seen", BODIES.size() >= 15, true);
        for (String name : BODIES.keySet()) {
            long lines = BODIES.get(name).lines().count();
            Check.due(name + " has " + lines + " lines, at most 60", lines <= 60, true);
            int deep = depth(name, 0);
            Check.due(name + " calls " + deep + " deep, at most 6", deep <= 6, true);
            Check.due(name + ": calls inside arguments", nestedCalls(BODIES.get(name)), 0);
        }
    }

    /** Above 6 also when methods call each other in a ring. */
    private static int depth(String name, int above) {
        int deepest = 1;
        for (Matcher m = CALL.matcher(BODIES.get(name)); m.find() && above < 8;) {
            if (BODIES.containsKey(m.group(1))) {
                deepest = Math.max(deepest, 1 + depth(m.group(1), above + 1));
            }
        }
        return deepest;
    }

    private static int nestedCalls(String body) {
        int nested = 0;
        for (Matcher m = CALL.matcher(body); m.find();) {
            if (!BODIES.containsKey(m.group(1))) {
                continue;
            }
            int open = 1;
            int end = m.end();
            while (open > 0) {
                open += body.charAt(end) == '(' ? 1 : body.charAt(end) == ')' ? -1 : 0;
                end++;
            }
            nested += CALL.matcher(body.substring(m.end(), end)).find() ? 1 : 0;
        }
        return nested;
    }

    public static void main(String[] args) throws Exception {
        text = Files.readString(Path.of("src/main/java/FactorDesk.java"))
            .replaceAll("(?s)/\\*.*?\\*/", "").replaceAll("(?m)//.*$", "");
        words();
        methods();
        Check.finish();
    }
}
