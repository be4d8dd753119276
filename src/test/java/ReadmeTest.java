import java.lang.reflect.InvocationTargetException;
import java.lang.reflect.Method;
import java.lang.reflect.Modifier;
import java.nio.file.Files;
import java.nio.file.Path;
import java.util.HashMap;
import java.util.Map;
import java.util.TreeMap;
import java.util.TreeSet;
import java.util.regex.Matcher;
import java.util.regex.Pattern;

/** README.md says how to use the class: its example answers what its comments say, and its table names each call. */
public final class ReadmeTest {
    private static final Pattern CALL = Pattern.compile("(?:int (\\w+) = )?desk\\.(\\w+)\\((.*?)\\);(?: *// (.*))?");
    private static final Pattern ANSWER = Pattern.compile("(-?\\d+|true|false|throws \\w+)(?::.*)?");
    private final MarketDesk desk = new MarketDesk();
    private final Map<String, Integer> names = new HashMap<>();
    private final TreeSet<String> used = new TreeSet<>();

    public static void main(String[] args) throws Exception {
        String readme = Files.readString(Path.of("README.md"));
        new ReadmeTest().exampleAnswersAsItSays(readme);
        tableNamesEachCall(readme);
        Check.end();
    }

    private void exampleAnswersAsItSays(String readme) throws Exception {
        int begin = readme.indexOf("```java\n") + 8;
        String[] lines = readme.substring(begin, readme.indexOf("```", begin)).split("\n");
        Check.same("the first line", "MarketDesk desk = new MarketDesk();", lines[0]);
        for (int i = 1; i < lines.length; i++) {
            if (!lines[i].isEmpty()) {
                line(lines[i]);
            }
        }
        Check.same("calls that the example shows", callsOfTheFace().keySet(), used);
    }

    private void line(String line) throws Exception {
        Matcher call = CALL.matcher(line);
        Check.same("a call in " + line, true, call.matches());
        String got = outcome(callsOfTheFace().get(call.group(2)), call.group(3));
        used.add(call.group(2));
        Matcher answer = ANSWER.matcher(call.group(4) == null ? "" : call.group(4));
        if (answer.matches()) {
            Check.same(line, answer.group(1), got);
        } else {
            Check.same(line, "done", got);
        }
        if (call.group(1) != null) {
            names.put(call.group(1), Integer.valueOf(got));
        }
    }

    private static Map<String, Method> callsOfTheFace() {
        Map<String, Method> calls = new TreeMap<>();
        for (Method method : MarketDesk.class.getDeclaredMethods()) {
            if (Modifier.isPublic(method.getModifiers())) {
                calls.put(method.getName(), method);
            }
        }
        return calls;
    }

    private String outcome(Method method, String written) throws Exception {
        String[] texts = written.isEmpty() ? new String[0] : written.split(", ");
        Object[] values = new Object[texts.length];
        for (int i = 0; i < texts.length; i++) {
            boolean truth = method.getParameterTypes()[i] == boolean.class;
            values[i] = truth ? (Object) Boolean.valueOf(texts[i]) : (Object) number(texts[i]);
        }
        try {
            Object answer = method.invoke(desk, values);
            return answer == null ? "done" : answer.toString();
        } catch (InvocationTargetException e) {
            return "throws " + e.getCause().getClass().getSimpleName();
        }
    }

    private Integer number(String text) {
        return names.containsKey(text) ? names.get(text) : Integer.valueOf(text);
    }

    private static void tableNamesEachCall(String readme) {
        Matcher row = Pattern.compile("(?m)^\\| `(\\w+)\\((.*?)\\)` \\|").matcher(readme);
        TreeSet<String> named = new TreeSet<>();
        while (row.find()) {
            int parameters = row.group(2).isEmpty() ? 0 : row.group(2).split(", ").length;
            named.add(row.group(1) + " of " + parameters);
        }
        TreeSet<String> due = new TreeSet<>();
        for (Method method : callsOfTheFace().values()) {
            due.add(method.getName() + " of " + method.getParameterCount());
        }
        Check.same("calls of the table", due, named);
    }
}
