import java.io.BufferedReader;
import java.io.IOException;
import java.io.InputStreamReader;
import java.lang.reflect.Method;
import java.lang.reflect.Modifier;
import java.nio.charset.StandardCharsets;
import java.util.ArrayList;
import java.util.Arrays;
import java.util.List;
import java.util.Set;
import java.util.TreeSet;
import java.util.regex.Matcher;
import java.util.regex.Pattern;

/** The calls that the README shows, with the answers it shows; it comes in on standard input. */
public final class ReadmeTest {
    private static final Pattern NEW = Pattern.compile("ArgSolver x = new ArgSolver\\((\\d+)\\); +// .*");
    private static final Pattern CALL = Pattern.compile("x\\.(\\w+)\\((.*)\\); +// (-?\\d+)(: .*)?");
    private static final Pattern KIND = Pattern.compile("\\| `ArgSolver\\.(\\w+)` *\\| (\\d) .*");
    private static final String[] REFUSALS = {
        "attack -1", "attacks -1", "certain -1", "certain -2", "core -1", "core -2", "count -1", "defended -2",
        "defended -3", "groundedLabel -1", "groundedLabel -2", "is -1", "is -2", "is -3", "nth -1", "nth -2",
        "play -1", "possible -1", "possible -2", "range -2", "range -3",
    };

    private static final Check CHECK = new Check();
    private static final Set<String> SHOWN = new TreeSet<>();
    private static final Set<String> REFUSED = new TreeSet<>();

    public static void main(String[] args) throws IOException, ReflectiveOperationException {
        List<String> lines = readLines();
        examples(lines);
        kinds(lines);
        everyMethodIsShown();
        CHECK.holds("every refusal of the document is shown, and no other: " + REFUSED,
            REFUSED.equals(new TreeSet<>(Arrays.asList(REFUSALS))));
        CHECK.end();
    }

    private static List<String> readLines() throws IOException {
        BufferedReader in = new BufferedReader(new InputStreamReader(System.in, StandardCharsets.UTF_8));
        List<String> lines = new ArrayList<>();
        for (String line = in.readLine(); line != null; line = in.readLine()) {
            lines.add(line);
        }
        return lines;
    }

    private static void examples(List<String> lines) throws ReflectiveOperationException {
        boolean inExample = false;
        ArgSolver x = null;
        for (String line : lines) {
            if (line.startsWith("```")) {
                inExample = line.equals("```java");
                x = null;
                continue;
            }
            if (!inExample) {
                continue;
            }
            Matcher made = NEW.matcher(line);
            if (made.matches()) {
                x = new ArgSolver(Integer.parseInt(made.group(1)));
            } else {
                example(x, line);
            }
        }
    }

    private static void example(ArgSolver x, String line) throws ReflectiveOperationException {
        Matcher call = CALL.matcher(line);
        boolean canRun = x != null && call.matches();
        CHECK.holds("can be run and has an answer: " + line, canRun);
        if (!canRun) {
            return;
        }
        int want = Integer.parseInt(call.group(3));
        CHECK.due(line, answer(x, call.group(1), call.group(2)), want);
        SHOWN.add(call.group(1));
        if (want < 0) {
            REFUSED.add(call.group(1) + " " + want);
        }
    }

    private static int answer(ArgSolver x, String name, String arguments) throws ReflectiveOperationException {
        String[] words = arguments.isEmpty() ? new String[0] : arguments.split(", ");
        Class<?>[] types = new Class<?>[words.length];
        Object[] values = new Object[words.length];
        for (int k = 0; k < words.length; k++) {
            types[k] = int.class;
            values[k] = value(words[k]);
        }
        return (int) ArgSolver.class.getMethod(name, types).invoke(x, values);
    }

    private static int value(String word) throws ReflectiveOperationException {
        String prefix = "ArgSolver.";
        return word.startsWith(prefix) ? constant(word.substring(prefix.length())) : Integer.parseInt(word);
    }

    private static int constant(String name) throws ReflectiveOperationException {
        return ArgSolver.class.getField(name).getInt(null);
    }

    private static void kinds(List<String> lines) throws ReflectiveOperationException {
        Set<String> named = new TreeSet<>();
        for (String line : lines) {
            Matcher kind = KIND.matcher(line);
            if (kind.matches()) {
                named.add(kind.group(1));
                CHECK.due(line, constant(kind.group(1)), Integer.parseInt(kind.group(2)));
            }
        }
        CHECK.due("kinds named in the table", named.size(), ArgSolver.class.getFields().length);
    }

    private static void everyMethodIsShown() {
        for (Method method : ArgSolver.class.getDeclaredMethods()) {
            if (Modifier.isPublic(method.getModifiers())) {
                CHECK.holds("a call of " + method.getName() + " is shown", SHOWN.contains(method.getName()));
            }
        }
    }
}
