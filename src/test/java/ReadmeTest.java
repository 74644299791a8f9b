import java.io.IOException;
import java.lang.reflect.Method;
import java.lang.reflect.Modifier;
import java.nio.charset.StandardCharsets;
import java.nio.file.Files;
import java.nio.file.Path;
import java.util.HashMap;
import java.util.List;
import java.util.Map;
import java.util.Set;
import java.util.TreeSet;
import java.util.regex.Matcher;
import java.util.regex.Pattern;

/**
 * README.md held against the class: the calls that it shows are read from it and made, so that none
 * can be shown that is not tested.
 */
public final class ReadmeTest {
    private static final String MAKING = "KinForms x = new KinForms();";
    private static final Pattern CALL =
        Pattern.compile("(?:(int|long) (\\w+) = )?x\\.(\\w+)\\(([^()]*)\\); *// (-?\\d+|[A-Z]+)(?::.*)?");
    private static final Pattern CALL_TOLD = Pattern.compile("\\| `(\\w+)\\(([^()]*)\\)` \\|.*");
    private static final Pattern NUMBER_TOLD = Pattern.compile("\\| `([A-Z]+)` \\| (-?\\d+) \\|.*");

    private static final Check CHECK = new Check();
    private static final Map<String, Integer> VARIABLES = new HashMap<>();
    private static final Set<String> SHOWN = new TreeSet<>();
    private static Run run;

    public static void main(String[] args) throws IOException, ReflectiveOperationException {
        List<String> rows = Files.readAllLines(Path.of("README.md"), StandardCharsets.UTF_8);
        callsAreAnsweredAsShown(rows);
        everyCallIsShown();
        everyCallIsTold(rows);
        everyNumberIsTold(rows);
        CHECK.holds("README.md says for how many calls an object is used", String.join(" ", rows).contains("at most 512 calls"));
        CHECK.holds("README.md says how to run the tests", rows.contains("    .ci/run"));
        CHECK.end();
    }

    private static Map<String, Method> face() {
        Map<String, Method> methods = new HashMap<>();
        for (Method method : KinForms.class.getDeclaredMethods()) {
            if (Modifier.isPublic(method.getModifiers())) {
                methods.put(method.getName(), method);
            }
        }
        return methods;
    }

    private static void callsAreAnsweredAsShown(List<String> rows) throws ReflectiveOperationException {
        boolean inCode = false;
        for (String row : rows) {
            if (row.startsWith("```")) {
                inCode = row.equals("```java");
            } else if (inCode && row.equals(MAKING)) {
                run = new Run(CHECK);
            } else if (inCode) {
                callIsAnsweredAsShown(row);
            }
        }
    }

    private static void callIsAnsweredAsShown(String row) throws ReflectiveOperationException {
        Matcher m = CALL.matcher(row);
        Method method = m.matches() ? face().get(m.group(3)) : null;
        int[] numbers = method == null ? null : numbersOf(m.group(4));
        if (run == null || numbers == null || numbers.length != method.getParameterCount()) {
            CHECK.holds("a call of the face on x with its answer: " + row, false);
            return;
        }
        SHOWN.add(method.getName());
        long answer = run.ask(method.getName(), numbers);
        CHECK.due(row, dueOf(m.group(5)), answer);
        if (m.group(2) != null) {
            CHECK.holds("the type that it answers by: " + row, m.group(1).equals(method.getReturnType().getName()));
            VARIABLES.put(m.group(2), (int) answer);
        }
    }

    /** Null, if one of them is neither a number nor a name that a row ahead has given. */
    private static int[] numbersOf(String list) {
        String[] words = list.isEmpty() ? new String[0] : list.split(", ");
        int[] numbers = new int[words.length];
        for (int i = 0; i < words.length; i++) {
            if (words[i].matches("-?\\d+")) {
                numbers[i] = Integer.parseInt(words[i]);
            } else if (VARIABLES.containsKey(words[i])) {
                numbers[i] = VARIABLES.get(words[i]);
            } else {
                return null;
            }
        }
        return numbers;
    }

    private static long dueOf(String answer) throws ReflectiveOperationException {
        return Character.isLetter(answer.charAt(0)) ? KinForms.class.getField(answer).getInt(null) : Long.parseLong(answer);
    }

    private static void everyCallIsShown() {
        for (String name : face().keySet()) {
            CHECK.holds("README.md shows " + name, SHOWN.contains(name));
        }
    }

    private static void everyCallIsTold(List<String> rows) {
        Map<String, Method> left = face();
        for (String row : rows) {
            Matcher m = CALL_TOLD.matcher(row);
            if (m.matches()) {
                Method method = left.remove(m.group(1));
                int told = m.group(2).isEmpty() ? 0 : m.group(2).split(", ").length;
                CHECK.holds("a call of the face, told once: " + row, method != null && method.getParameterCount() == told);
            }
        }
        CHECK.holds("README.md tells of " + left.keySet(), left.isEmpty());
    }

    private static void everyNumberIsTold(List<String> rows) throws ReflectiveOperationException {
        Set<String> left = new TreeSet<>(Set.of("NONE", "UNKNOWN", "OUTSIDE", "NOT", "FULL", "MANY"));
        for (String row : rows) {
            Matcher m = NUMBER_TOLD.matcher(row);
            if (m.matches()) {
                CHECK.holds("a number of the face, told once: " + row, left.remove(m.group(1)));
                CHECK.due(row, Long.parseLong(m.group(2)), KinForms.class.getField(m.group(1)).getInt(null));
            }
        }
        CHECK.holds("README.md tells the number of " + left, left.isEmpty());
    }
}
